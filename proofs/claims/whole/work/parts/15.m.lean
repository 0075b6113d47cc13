def fX8_read_b89 (t0 : Int32) (σ : ab_S) : Option (Int32 × ab_S) := some (t0, σ)
def fX8_read_b81 (σ : ab_S) : Option (Int32 × ab_S) := fX8_read_b89 (σ.1 18 0 4) σ
def fX8_read_b63 (σ : ab_S) : Option (Int32 × ab_S) := (if (σ.1 18 0 5) = 0 then (if (σ.1 18 0 2) ≤ (σ.1 18 0 4) then fX8_read_b89 ((-1)) σ else fX8_read_b81 σ) else fX8_read_b81 σ)
def fX8_read_b21_o (kk21 : Int32 → ab_S → Option (Int32 × ab_S)) (v1 : Int32) (σ : ab_S) : Option (Int32 × ab_S) := (if 120 ≤ v1 then fX8_read_b63 σ else (if (σ.1 18 0 5) = 0 then (fX8_letter σ).bind fun q3 => (if q3 = 59 then ab_k (ab_si σ 18 0 4 ((σ.1 18 0 4) + 1)) fun σ5 => (fX8_line σ5).bind fun q6 => kk21 (v1 + 1) q6 else fX8_read_b63 σ) else fX8_read_b63 σ))
def fX8_read_b21 : Nat → Int32 → ab_S → Option (Int32 × ab_S)
  | 0 => fun _ _ => none
  | n + 1 => fX8_read_b21_o  (fX8_read_b21 n)
def fX8_read (σ : ab_S) : Option (Int32 × ab_S) := ab_k (ab_si σ 18 0 4 0) fun σ1 => ab_k (ab_si σ1 18 0 3 0) fun σ2 => ab_k (ab_si σ2 18 0 5 0) fun σ3 => (fX8_line σ3).bind fun q4 => fX8_read_b21 ab_N 0 q4
section
variable {p : Program} {l : Launch} {e : Env} {s : State} {m : MethodId} {args : Array Value} {below : List Frame} {meth : Method} {c : Code} {D : va_G} {cA : Nat → ClassId} {ad : Nat → Nat → Nat}
set_option maxRecDepth 100000 in
set_option maxHeartbeats 4000000 in
theorem gX8_read_b89 {R : (Int32 × ab_S)} (C : ab_C yC p s m args meth c D cA ad cX8_read 2 RX8 (some .int)) (t0 : Int32) (σ : ab_S) (h : fX8_read_b89 t0 σ = some R) : ab_G yC p l e s m args below meth c D cA ad 2 68 (some (.inl R.1)) R.2 89 [none, none] [.inl t0] σ := by
  obtain rfl := Option.some.inj h
  exact ab_iret C dX8_read_89
set_option maxRecDepth 100000 in
set_option maxHeartbeats 4000000 in
theorem gX8_read_b81 {R : (Int32 × ab_S)} (C : ab_C yC p s m args meth c D cA ad cX8_read 2 RX8 (some .int)) (σ : ab_S) (h : fX8_read_b81 σ = some R) : ab_G yC p l e s m args below meth c D cA ad 2 68 (some (.inl R.1)) R.2 81 [some (.inr (.inr (18, 0))), none] [] σ := by
  refine ab_aload_n C dX8_read_81 rfl ?_
  refine ab_getI C dX8_read_82 flX8_28 rkC_18 rfl mmC_18 ?_
  refine ab_goto C (tgt := 89) dX8_read_85 (by decide) ?_
  refine ab_weak (lv' := [none, none]) ⟨.inl rfl, ⟨.inl rfl, trivial⟩⟩ ?_
  exact gX8_read_b89 C _ _ h
set_option maxRecDepth 100000 in
set_option maxHeartbeats 4000000 in
theorem gX8_read_b63 {R : (Int32 × ab_S)} (C : ab_C yC p s m args meth c D cA ad cX8_read 2 RX8 (some .int)) (σ : ab_S) (h : fX8_read_b63 σ = some R) : ab_G yC p l e s m args below meth c D cA ad 2 68 (some (.inl R.1)) R.2 63 [some (.inr (.inr (18, 0))), none] [] σ := by
  refine ab_aload_n C dX8_read_63 rfl ?_
  refine ab_getI C dX8_read_64 flX8_34 rkC_18 rfl mmC_18 ?_
  refine ab_if_ne C (tgt := 81) dX8_read_67 (by decide) (fun hc1 => ?_) (fun hc1 => ?_)
  · replace h := ab_neg hc1 h
    refine ab_weak (lv' := [some (.inr (.inr (18, 0))), none]) ⟨.inr rfl, ⟨.inl rfl, trivial⟩⟩ ?_
    exact gX8_read_b81 C _ h
  · replace h := ab_pos hc1 h
    refine ab_aload_n C dX8_read_70 rfl ?_
    refine ab_getI C dX8_read_71 flX8_28 rkC_18 rfl mmC_18 ?_
    refine ab_aload_n C dX8_read_74 rfl ?_
    refine ab_getI C dX8_read_75 flX8_20 rkC_18 rfl mmC_18 ?_
    refine ab_icmp_ge C (tgt := 88) dX8_read_78 (by decide) (fun hc2 => ?_) (fun hc2 => ?_)
    · replace h := ab_pos hc2 h
      refine ab_iconst C dX8_read_88 (v := (-1)) rfl ?_
      refine ab_weak (lv' := [none, none]) ⟨.inl rfl, ⟨.inl rfl, trivial⟩⟩ ?_
      exact gX8_read_b89 C _ _ h
    · replace h := ab_neg hc2 h
      refine ab_weak (lv' := [some (.inr (.inr (18, 0))), none]) ⟨.inr rfl, ⟨.inl rfl, trivial⟩⟩ ?_
      exact gX8_read_b81 C _ h
set_option maxRecDepth 100000 in
set_option maxHeartbeats 4000000 in
theorem gX8_read_b21_o {R : (Int32 × ab_S)} (C : ab_C yC p s m args meth c D cA ad cX8_read 2 RX8 (some .int)) {kk21 : Int32 → ab_S → Option (Int32 × ab_S)} (hk21 : ∀ (v1 : Int32) (σ : ab_S), kk21 v1 σ = some R → ab_G yC p l e s m args below meth c D cA ad 2 68 (some (.inl R.1)) R.2 21 [some (.inr (.inr (18, 0))), some (.inl v1)] [] σ) (v1 : Int32) (σ : ab_S) (h : fX8_read_b21_o kk21 v1 σ = some R) : ab_G yC p l e s m args below meth c D cA ad 2 68 (some (.inl R.1)) R.2 21 [some (.inr (.inr (18, 0))), some (.inl v1)] [] σ := by
  refine ab_iload_n C dX8_read_21 rfl ?_
  refine ab_bipush C dX8_read_22 (v := 120) rfl ?_
  refine ab_icmp_ge C (tgt := 63) dX8_read_24 (by decide) (fun hc1 => ?_) (fun hc1 => ?_)
  · replace h := ab_pos hc1 h
    refine ab_weak (lv' := [some (.inr (.inr (18, 0))), none]) ⟨.inr rfl, ⟨.inl rfl, trivial⟩⟩ ?_
    exact gX8_read_b63 C _ h
  · replace h := ab_neg hc1 h
    refine ab_aload_n C dX8_read_27 rfl ?_
    refine ab_getI C dX8_read_28 flX8_34 rkC_18 rfl mmC_18 ?_
    refine ab_if_ne C (tgt := 63) dX8_read_31 (by decide) (fun hc2 => ?_) (fun hc2 => ?_)
    · replace h := ab_neg hc2 h
      refine ab_weak (lv' := [some (.inr (.inr (18, 0))), none]) ⟨.inr rfl, ⟨.inl rfl, trivial⟩⟩ ?_
      exact gX8_read_b63 C _ h
    · replace h := ab_pos hc2 h
      refine ab_aload_n C dX8_read_34 rfl ?_
      obtain ⟨q3, hq3, h⟩ := ab_bind h
      refine ab_inv1 C dX8_read_35 mlX8_41 yvX8_letter rkC_18 ⟨_, _, rfl⟩ mmC_18 (tX8_letter l _ hq3) (Nat.le_of_ble_eq_true rfl) (Nat.le_of_ble_eq_true rfl) rfl (Nat.le_of_ble_eq_true rfl) ?_
      refine ab_bipush C dX8_read_38 (v := 59) rfl ?_
      refine ab_icmp_ne C (tgt := 63) dX8_read_40 (by decide) (fun hc4 => ?_) (fun hc4 => ?_)
      · replace h := ab_neg hc4 h
        refine ab_weak (lv' := [some (.inr (.inr (18, 0))), none]) ⟨.inr rfl, ⟨.inl rfl, trivial⟩⟩ ?_
        exact gX8_read_b63 C _ h
      · replace h := ab_pos hc4 h
        refine ab_aload_n C dX8_read_43 rfl ?_
        refine ab_dup C dX8_read_44 rfl ?_
        refine ab_getI C dX8_read_45 flX8_28 rkC_18 rfl mmC_18 ?_
        refine ab_iconst C dX8_read_48 (v := 1) rfl ?_
        refine ab_iadd C dX8_read_49  ?_
        refine ab_putI C dX8_read_50 fpX8_28 rkC_18 rfl mmC_18 rfl rfl ?_
        refine ab_nmS (fun σ5 eσ5 => ?_)
        replace h := ab_kh eσ5 h
        refine ab_aload_n C dX8_read_53 rfl ?_
        obtain ⟨q6, hq6, h⟩ := ab_bind h
        refine ab_inv0 C dX8_read_54 mlX8_38 yvX8_line rkC_18 ⟨_, _, rfl⟩ mmC_18 (tX8_line l _ hq6) (Nat.le_of_ble_eq_true rfl) (Nat.le_of_ble_eq_true rfl) rfl (Nat.le_of_ble_eq_true rfl) ?_
        refine ab_iinc C dX8_read_57 rfl (v := 1) rfl (Nat.le_of_ble_eq_true rfl) ?_
        refine ab_goto C (tgt := 21) dX8_read_60 (by decide) ?_
        refine ab_weak (lv' := [some (.inr (.inr (18, 0))), some (.inl (v1 + 1))]) ⟨.inr rfl, ⟨.inr rfl, trivial⟩⟩ ?_
        exact hk21 _ _ h
theorem gX8_read_b21 {R : (Int32 × ab_S)} (C : ab_C yC p s m args meth c D cA ad cX8_read 2 RX8 (some .int)) : ∀ (j : Nat) (v1 : Int32) (σ : ab_S), fX8_read_b21 j v1 σ = some R → ab_G yC p l e s m args below meth c D cA ad 2 68 (some (.inl R.1)) R.2 21 [some (.inr (.inr (18, 0))), some (.inl v1)] [] σ := by
  intro j
  induction j with
  | zero => intro v1 σ  h; cases h
  | succ j ih => intro v1 σ  h; exact gX8_read_b21_o C ih _ _ h
set_option maxRecDepth 100000 in
set_option maxHeartbeats 4000000 in
theorem tX8_read (l : Launch) (σ : ab_S) {R : (Int32 × ab_S)} (h : fX8_read σ = some R) : ab_M l yC yX8_read cX8_read 2 (some .int) 68 [.inr (.inr (18, 0))] σ (some (.inl R.1)) R.2 := by
  refine ab_M_intro ndC (by decide) (Nat.le_of_ble_eq_true rfl) ?_
  intro p e s m args below meth c D cA ad C
  have C : ab_C yC p s m args meth c D cA ad cX8_read 2 RX8 (some .int) := C
  refine ab_weak (lv' := [some (.inr (.inr (18, 0))), none]) ⟨.inr rfl, ⟨.inl rfl, trivial⟩⟩ ?_
  refine ab_aload_n C dX8_read_0 rfl ?_
  refine ab_iconst C dX8_read_1 (v := 0) rfl ?_
  refine ab_putI C dX8_read_2 fpX8_28 rkC_18 rfl mmC_18 rfl rfl ?_
  refine ab_nmS (fun σ1 eσ1 => ?_)
  replace h := ab_kh eσ1 h
  refine ab_aload_n C dX8_read_5 rfl ?_
  refine ab_iconst C dX8_read_6 (v := 0) rfl ?_
  refine ab_putI C dX8_read_7 fpX8_31 rkC_18 rfl mmC_18 rfl rfl ?_
  refine ab_nmS (fun σ2 eσ2 => ?_)
  replace h := ab_kh eσ2 h
  refine ab_aload_n C dX8_read_10 rfl ?_
  refine ab_iconst C dX8_read_11 (v := 0) rfl ?_
  refine ab_putI C dX8_read_12 fpX8_34 rkC_18 rfl mmC_18 rfl rfl ?_
  refine ab_nmS (fun σ3 eσ3 => ?_)
  replace h := ab_kh eσ3 h
  refine ab_aload_n C dX8_read_15 rfl ?_
  obtain ⟨q4, hq4, h⟩ := ab_bind h
  refine ab_inv0 C dX8_read_16 mlX8_38 yvX8_line rkC_18 ⟨_, _, rfl⟩ mmC_18 (tX8_line l _ hq4) (Nat.le_of_ble_eq_true rfl) (Nat.le_of_ble_eq_true rfl) rfl (Nat.le_of_ble_eq_true rfl) ?_
  refine ab_iconst C dX8_read_19 (v := 0) rfl ?_
  refine ab_istore_n C dX8_read_20 (Nat.le_of_ble_eq_true rfl) ?_
  refine ab_weak (lv' := [some (.inr (.inr (18, 0))), some (.inl 0)]) ⟨.inr rfl, ⟨.inr rfl, trivial⟩⟩ ?_
  exact gX8_read_b21 C ab_N _ _ h
end
def fX9_act (x1 : Int32) (x2 : Int32) (x3 : Int32) (σ : ab_S) : Option (Int32 × ab_S) := (fX0_perform x1 x2 x3 σ).bind fun q1 => some (q1.1, q1.2)
section
variable {p : Program} {l : Launch} {e : Env} {s : State} {m : MethodId} {args : Array Value} {below : List Frame} {meth : Method} {c : Code} {D : va_G} {cA : Nat → ClassId} {ad : Nat → Nat → Nat}
set_option maxRecDepth 100000 in
set_option maxHeartbeats 4000000 in
theorem tX9_act (l : Launch) (x1 : Int32) (x2 : Int32) (x3 : Int32) (σ : ab_S) {R : (Int32 × ab_S)} (h : fX9_act x1 x2 x3 σ = some R) : ab_M l yC yX9_act cX9_act 4 (some .int) 67 [.inr (.inr (0, 0)), .inl x1, .inl x2, .inl x3] σ (some (.inl R.1)) R.2 := by
  refine ab_M_intro ndC (by decide) (Nat.le_of_ble_eq_true rfl) ?_
  intro p e s m args below meth c D cA ad C
  have C : ab_C yC p s m args meth c D cA ad cX9_act 4 RX9 (some .int) := C
  refine ab_weak (lv' := [some (.inr (.inr (0, 0))), some (.inl x1), some (.inl x2), some (.inl x3)]) ⟨.inr rfl, ⟨.inr rfl, ⟨.inr rfl, ⟨.inr rfl, trivial⟩⟩⟩⟩ ?_
  refine ab_aload_n C dX9_act_0 rfl ?_
  refine ab_getR C dX9_act_1 flX9_65 rkC_0 rfl mmC_0 ?_
  refine ab_iload_n C dX9_act_4 rfl ?_
  refine ab_iload_n C dX9_act_5 rfl ?_
  refine ab_iload_n C dX9_act_6 rfl ?_
  obtain ⟨q1, hq1, h⟩ := ab_bind h
  refine ab_inv1 C dX9_act_7 mlX9_320 yvX0_perform rkC_36 ⟨_, _, rfl⟩ mmC_36 (tX0_perform l _ _ _ _ hq1) (Nat.le_of_ble_eq_true rfl) (Nat.le_of_ble_eq_true rfl) rfl (Nat.le_of_ble_eq_true rfl) ?_
  obtain rfl := Option.some.inj h
  exact ab_iret C dX9_act_10
end
def fX9_anew (σ : ab_S) : Option (Int32 × ab_S) := (fX4_begin σ).bind fun q1 => some (σ.1 5 0 3, q1)
section
variable {p : Program} {l : Launch} {e : Env} {s : State} {m : MethodId} {args : Array Value} {below : List Frame} {meth : Method} {c : Code} {D : va_G} {cA : Nat → ClassId} {ad : Nat → Nat → Nat}
set_option maxRecDepth 100000 in
set_option maxHeartbeats 4000000 in
theorem tX9_anew (l : Launch) (σ : ab_S) {R : (Int32 × ab_S)} (h : fX9_anew σ = some R) : ab_M l yC yX9_anew cX9_anew 2 (some .int) 1 [.inr (.inr (0, 0))] σ (some (.inl R.1)) R.2 := by
  refine ab_M_intro ndC (by decide) (Nat.le_of_ble_eq_true rfl) ?_
  intro p e s m args below meth c D cA ad C
  have C : ab_C yC p s m args meth c D cA ad cX9_anew 2 RX9 (some .int) := C
  refine ab_weak (lv' := [some (.inr (.inr (0, 0))), none]) ⟨.inr rfl, ⟨.inl rfl, trivial⟩⟩ ?_
  refine ab_aload_n C dX9_anew_0 rfl ?_
  refine ab_getR C dX9_anew_1 flX9_19 rkC_0 rfl mmC_0 ?_
  refine ab_getI C dX9_anew_4 flX9_138 rkC_5 rfl mmC_5 ?_
  refine ab_istore_n C dX9_anew_7 (Nat.le_of_ble_eq_true rfl) ?_
  refine ab_aload_n C dX9_anew_8 rfl ?_
  refine ab_getR C dX9_anew_9 flX9_19 rkC_0 rfl mmC_0 ?_
  obtain ⟨q1, hq1, h⟩ := ab_bind h
  refine ab_inv0 C dX9_anew_12 mlX9_193 yvX4_begin rkC_5 ⟨_, _, rfl⟩ mmC_5 (tX4_begin l _ hq1) (Nat.le_of_ble_eq_true rfl) (Nat.le_of_ble_eq_true rfl) rfl (Nat.le_of_ble_eq_true rfl) ?_
  refine ab_iload_n C dX9_anew_15 rfl ?_
  obtain rfl := Option.some.inj h
  exact ab_iret C dX9_anew_16
end
def fX9_timesTill_b20_o (kk20 : Int64 → Int64 → Int64 → Int64 → Int32 → Option Int32) (v0 : Int64) (v2 : Int64) (v4 : Int64) (v6 : Int64) (v8 : Int32) : Option Int32 := (if 4 < v8 then some ((-2)) else (if (lg_cmp (v4 * v0) (v6 * v2)) < 0 then kk20 v0 v2 (v4 * v0) (v6 * v2) (v8 + 1) else some v8))
def fX9_timesTill_b20 : Nat → Int64 → Int64 → Int64 → Int64 → Int32 → Option Int32
  | 0 => fun _ _ _ _ _ => none
  | n + 1 => fX9_timesTill_b20_o  (fX9_timesTill_b20 n)
def fX9_timesTill (x0 : Int64) (x2 : Int64) : Option Int32 := (if (lg_cmp x0 0) = 0 then some ((-2)) else fX9_timesTill_b20 ab_N x0 x2 1 12 1)
section
variable {p : Program} {l : Launch} {e : Env} {s : State} {m : MethodId} {args : Array Value} {below : List Frame} {meth : Method} {c : Code} {D : va_G} {cA : Nat → ClassId} {ad : Nat → Nat → Nat}
set_option maxRecDepth 100000 in
set_option maxHeartbeats 4000000 in
theorem gX9_timesTill_b20_o {R : Int32} (C : ab_C yC p s m args meth c D cA ad cX9_timesTill 9 RX9 (some .int)) {σ : ab_S} {kk20 : Int64 → Int64 → Int64 → Int64 → Int32 → Option Int32} (hk20 : ∀ (v0 : Int64) (v2 : Int64) (v4 : Int64) (v6 : Int64) (v8 : Int32), kk20 v0 v2 v4 v6 v8 = some R → ab_G yC p l e s m args below meth c D cA ad 9 0 (some (.inl R)) σ 20 [some (.inr (.inl v0)), none, some (.inr (.inl v2)), none, some (.inr (.inl v4)), none, some (.inr (.inl v6)), none, some (.inl v8)] [] σ) (v0 : Int64) (v2 : Int64) (v4 : Int64) (v6 : Int64) (v8 : Int32) (h : fX9_timesTill_b20_o kk20 v0 v2 v4 v6 v8 = some R) : ab_G yC p l e s m args below meth c D cA ad 9 0 (some (.inl R)) σ 20 [some (.inr (.inl v0)), none, some (.inr (.inl v2)), none, some (.inr (.inl v4)), none, some (.inr (.inl v6)), none, some (.inl v8)] [] σ := by
  refine ab_iload C dX9_timesTill_20 rfl ?_
  refine ab_iconst C dX9_timesTill_22 (v := 4) rfl ?_
  refine ab_icmp_gt C (tgt := 55) dX9_timesTill_23 (by decide) (fun hc1 => ?_) (fun hc1 => ?_)
  · replace h := ab_pos hc1 h
    refine ab_bipush C dX9_timesTill_55 (v := (-2)) rfl ?_
    obtain rfl := Option.some.inj h
    exact ab_iret C dX9_timesTill_57
  · replace h := ab_neg hc1 h
    refine ab_lload C dX9_timesTill_26 rfl ?_
    refine ab_lload_n C dX9_timesTill_28 rfl ?_
    refine ab_lmul C dX9_timesTill_29  ?_
    refine ab_lstore C dX9_timesTill_30 (Nat.le_of_ble_eq_true rfl) ?_
    refine ab_lload C dX9_timesTill_32 rfl ?_
    refine ab_lload_n C dX9_timesTill_34 rfl ?_
    refine ab_lmul C dX9_timesTill_35  ?_
    refine ab_lstore C dX9_timesTill_36 (Nat.le_of_ble_eq_true rfl) ?_
    refine ab_lload C dX9_timesTill_38 rfl ?_
    refine ab_lload C dX9_timesTill_40 rfl ?_
    refine ab_lcmp C dX9_timesTill_42  ?_
    refine ab_if_lt C (tgt := 49) dX9_timesTill_43 (by decide) (fun hc2 => ?_) (fun hc2 => ?_)
    · replace h := ab_pos hc2 h
      refine ab_iinc C dX9_timesTill_49 rfl (v := 1) rfl (Nat.le_of_ble_eq_true rfl) ?_
      refine ab_weak (lv' := [some (.inr (.inl v0)), none, some (.inr (.inl v2)), none, some (.inr (.inl (v4 * v0))), none, some (.inr (.inl (v6 * v2))), none, some (.inl (v8 + 1))]) ⟨.inr rfl, ⟨.inl rfl, ⟨.inr rfl, ⟨.inl rfl, ⟨.inr rfl, ⟨.inl rfl, ⟨.inr rfl, ⟨.inl rfl, ⟨.inr rfl, trivial⟩⟩⟩⟩⟩⟩⟩⟩⟩ ?_
      refine ab_goto C (tgt := 20) dX9_timesTill_52 (by decide) ?_
      refine ab_weak (lv' := [some (.inr (.inl v0)), none, some (.inr (.inl v2)), none, some (.inr (.inl (v4 * v0))), none, some (.inr (.inl (v6 * v2))), none, some (.inl (v8 + 1))]) ⟨.inr rfl, ⟨.inl rfl, ⟨.inr rfl, ⟨.inl rfl, ⟨.inr rfl, ⟨.inl rfl, ⟨.inr rfl, ⟨.inl rfl, ⟨.inr rfl, trivial⟩⟩⟩⟩⟩⟩⟩⟩⟩ ?_
      exact hk20 _ _ _ _ _ h
    · replace h := ab_neg hc2 h
      refine ab_iload C dX9_timesTill_46 rfl ?_
      obtain rfl := Option.some.inj h
      exact ab_iret C dX9_timesTill_48
theorem gX9_timesTill_b20 {R : Int32} (C : ab_C yC p s m args meth c D cA ad cX9_timesTill 9 RX9 (some .int)) {σ : ab_S} : ∀ (j : Nat) (v0 : Int64) (v2 : Int64) (v4 : Int64) (v6 : Int64) (v8 : Int32), fX9_timesTill_b20 j v0 v2 v4 v6 v8 = some R → ab_G yC p l e s m args below meth c D cA ad 9 0 (some (.inl R)) σ 20 [some (.inr (.inl v0)), none, some (.inr (.inl v2)), none, some (.inr (.inl v4)), none, some (.inr (.inl v6)), none, some (.inl v8)] [] σ := by
  intro j
  induction j with
  | zero => intro v0 v2 v4 v6 v8  h; cases h
  | succ j ih => intro v0 v2 v4 v6 v8  h; exact gX9_timesTill_b20_o C ih _ _ _ _ _ h
set_option maxRecDepth 100000 in
set_option maxHeartbeats 4000000 in
theorem tX9_timesTill (l : Launch) (x0 : Int64) (x2 : Int64) (σ : ab_S) {R : Int32} (h : fX9_timesTill x0 x2 = some R) : ab_M l yC yX9_timesTill cX9_timesTill 9 (some .int) 0 [.inr (.inl x0), .inr (.inl x2)] σ (some (.inl R)) σ := by
  refine ab_M_intro ndC (by decide) (Nat.le_of_ble_eq_true rfl) ?_
  intro p e s m args below meth c D cA ad C
  have C : ab_C yC p s m args meth c D cA ad cX9_timesTill 9 RX9 (some .int) := C
  refine ab_weak (lv' := [some (.inr (.inl x0)), none, some (.inr (.inl x2)), none, none, none, none, none, none]) ⟨.inr rfl, ⟨.inl rfl, ⟨.inr rfl, ⟨.inl rfl, ⟨.inl rfl, ⟨.inl rfl, ⟨.inl rfl, ⟨.inl rfl, ⟨.inl rfl, trivial⟩⟩⟩⟩⟩⟩⟩⟩⟩ ?_
  refine ab_lload_n C dX9_timesTill_0 rfl ?_
  refine ab_lconst C dX9_timesTill_1 (v := 0) rfl ?_
  refine ab_lcmp C dX9_timesTill_2  ?_
  refine ab_if_ne C (tgt := 9) dX9_timesTill_3 (by decide) (fun hc1 => ?_) (fun hc1 => ?_)
  · replace h := ab_neg hc1 h
    refine ab_lconst C dX9_timesTill_9 (v := 1) rfl ?_
    refine ab_lstore C dX9_timesTill_10 (Nat.le_of_ble_eq_true rfl) ?_
    refine ab_ldc2 C dX9_timesTill_12 cwX9_282 ?_
    refine ab_lstore C dX9_timesTill_15 (Nat.le_of_ble_eq_true rfl) ?_
    refine ab_iconst C dX9_timesTill_17 (v := 1) rfl ?_
    refine ab_istore C dX9_timesTill_18 (Nat.le_of_ble_eq_true rfl) ?_
    refine ab_weak (lv' := [some (.inr (.inl x0)), none, some (.inr (.inl x2)), none, some (.inr (.inl 1)), none, some (.inr (.inl 12)), none, some (.inl 1)]) ⟨.inr rfl, ⟨.inl rfl, ⟨.inr rfl, ⟨.inl rfl, ⟨.inr rfl, ⟨.inl rfl, ⟨.inr rfl, ⟨.inl rfl, ⟨.inr rfl, trivial⟩⟩⟩⟩⟩⟩⟩⟩⟩ ?_
    refine ab_weak (lv' := [some (.inr (.inl x0)), none, some (.inr (.inl x2)), none, some (.inr (.inl 1)), none, some (.inr (.inl 12)), none, some (.inl 1)]) ⟨.inr rfl, ⟨.inl rfl, ⟨.inr rfl, ⟨.inl rfl, ⟨.inr rfl, ⟨.inl rfl, ⟨.inr rfl, ⟨.inl rfl, ⟨.inr rfl, trivial⟩⟩⟩⟩⟩⟩⟩⟩⟩ ?_
    exact gX9_timesTill_b20 C ab_N _ _ _ _ _ h
  · replace h := ab_pos hc1 h
    refine ab_bipush C dX9_timesTill_6 (v := (-2)) rfl ?_
    obtain rfl := Option.some.inj h
    exact ab_iret C dX9_timesTill_8
end
def fX9_apart_b37 (σ : ab_S) : Option (Int32 × ab_S) := some ((-1), σ)
def fX9_apart_b103 (σ : ab_S) : Option (Int32 × ab_S) := some ((-1), σ)
def fX9_apart (x1 : Int32) (x2 : Int32) (σ : ab_S) : Option (Int32 × ab_S) := (if (x1 / 10) < 0 then fX9_apart_b37 σ else (if 4 ≤ (x1 / 10) then fX9_apart_b37 σ else (if (ab_mod x1 10) < 0 then fX9_apart_b37 σ else (if 4 ≤ (ab_mod x1 10) then fX9_apart_b37 σ else (if (x1 / 10) = (ab_mod x1 10) then fX9_apart_b37 σ else (fX7_has (x2 / 100) σ).bind fun q6 => (if q6 = 0 then fX9_apart_b103 σ else (fX7_has (ab_mod (x2 / 10) 10) σ).bind fun q8 => (if q8 = 0 then fX9_apart_b103 σ else (fX7_has (ab_mod x2 10) σ).bind fun q10 => (if q10 = 0 then fX9_apart_b103 σ else (if (ab_mod (x2 / 10) 10) = (x2 / 100) then fX9_apart_b103 σ else (fX1_shareOf (x1 / 10) 0 0 (x2 / 100) (ab_mod (x2 / 10) 10) (ab_mod x2 10) σ).bind fun q13 => (fX1_shareOf (ab_mod x1 10) 0 0 (x2 / 100) (ab_mod (x2 / 10) 10) (ab_mod x2 10) q13.2).bind fun q14 => (fX9_timesTill q13.1 q14.1).bind fun q15 => some (q15, q14.2))))))))))
section
variable {p : Program} {l : Launch} {e : Env} {s : State} {m : MethodId} {args : Array Value} {below : List Frame} {meth : Method} {c : Code} {D : va_G} {cA : Nat → ClassId} {ad : Nat → Nat → Nat}
set_option maxRecDepth 100000 in
set_option maxHeartbeats 4000000 in
theorem gX9_apart_b37 {R : (Int32 × ab_S)} (C : ab_C yC p s m args meth c D cA ad cX9_apart 8 RX9 (some .int)) (σ : ab_S) (h : fX9_apart_b37 σ = some R) : ab_G yC p l e s m args below meth c D cA ad 8 4 (some (.inl R.1)) R.2 37 [none, none, none, none, none, none, none, none] [] σ := by
  refine ab_iconst C dX9_apart_37 (v := (-1)) rfl ?_
  obtain rfl := Option.some.inj h
  exact ab_iret C dX9_apart_38
set_option maxRecDepth 100000 in
set_option maxHeartbeats 4000000 in
theorem gX9_apart_b103 {R : (Int32 × ab_S)} (C : ab_C yC p s m args meth c D cA ad cX9_apart 8 RX9 (some .int)) (σ : ab_S) (h : fX9_apart_b103 σ = some R) : ab_G yC p l e s m args below meth c D cA ad 8 4 (some (.inl R.1)) R.2 103 [none, none, none, none, none, none, none, none] [] σ := by
  refine ab_iconst C dX9_apart_103 (v := (-1)) rfl ?_
  obtain rfl := Option.some.inj h
  exact ab_iret C dX9_apart_104
set_option maxRecDepth 100000 in
set_option maxHeartbeats 4000000 in
theorem tX9_apart (l : Launch) (x1 : Int32) (x2 : Int32) (σ : ab_S) {R : (Int32 × ab_S)} (h : fX9_apart x1 x2 σ = some R) : ab_M l yC yX9_apart cX9_apart 8 (some .int) 4 [.inr (.inr (0, 0)), .inl x1, .inl x2] σ (some (.inl R.1)) R.2 := by
  refine ab_M_intro ndC (by decide) (Nat.le_of_ble_eq_true rfl) ?_
  intro p e s m args below meth c D cA ad C
  have C : ab_C yC p s m args meth c D cA ad cX9_apart 8 RX9 (some .int) := C
  refine ab_weak (lv' := [some (.inr (.inr (0, 0))), some (.inl x1), some (.inl x2), none, none, none, none, none]) ⟨.inr rfl, ⟨.inr rfl, ⟨.inr rfl, ⟨.inl rfl, ⟨.inl rfl, ⟨.inl rfl, ⟨.inl rfl, ⟨.inl rfl, trivial⟩⟩⟩⟩⟩⟩⟩⟩ ?_
  refine ab_iload_n C dX9_apart_0 rfl ?_
  refine ab_bipush C dX9_apart_1 (v := 10) rfl ?_
  refine ab_idiv C dX9_apart_3 (by decide) ?_
  refine ab_istore_n C dX9_apart_4 (Nat.le_of_ble_eq_true rfl) ?_
  refine ab_iload_n C dX9_apart_5 rfl ?_
  refine ab_bipush C dX9_apart_6 (v := 10) rfl ?_
  refine ab_irem C dX9_apart_8 (by decide) ?_
  refine ab_istore C dX9_apart_9 (Nat.le_of_ble_eq_true rfl) ?_
  refine ab_iload_n C dX9_apart_11 rfl ?_
  refine ab_if_lt C (tgt := 37) dX9_apart_12 (by decide) (fun hc1 => ?_) (fun hc1 => ?_)
  · replace h := ab_pos hc1 h
    refine ab_weak (lv' := [none, none, none, none, none, none, none, none]) ⟨.inl rfl, ⟨.inl rfl, ⟨.inl rfl, ⟨.inl rfl, ⟨.inl rfl, ⟨.inl rfl, ⟨.inl rfl, ⟨.inl rfl, trivial⟩⟩⟩⟩⟩⟩⟩⟩ ?_
    exact gX9_apart_b37 C _ h
  · replace h := ab_neg hc1 h
    refine ab_iload_n C dX9_apart_15 rfl ?_
    refine ab_iconst C dX9_apart_16 (v := 4) rfl ?_
    refine ab_icmp_ge C (tgt := 37) dX9_apart_17 (by decide) (fun hc2 => ?_) (fun hc2 => ?_)
    · replace h := ab_pos hc2 h
      refine ab_weak (lv' := [none, none, none, none, none, none, none, none]) ⟨.inl rfl, ⟨.inl rfl, ⟨.inl rfl, ⟨.inl rfl, ⟨.inl rfl, ⟨.inl rfl, ⟨.inl rfl, ⟨.inl rfl, trivial⟩⟩⟩⟩⟩⟩⟩⟩ ?_
      exact gX9_apart_b37 C _ h
    · replace h := ab_neg hc2 h
      refine ab_iload C dX9_apart_20 rfl ?_
      refine ab_if_lt C (tgt := 37) dX9_apart_22 (by decide) (fun hc3 => ?_) (fun hc3 => ?_)
      · replace h := ab_pos hc3 h
        refine ab_weak (lv' := [none, none, none, none, none, none, none, none]) ⟨.inl rfl, ⟨.inl rfl, ⟨.inl rfl, ⟨.inl rfl, ⟨.inl rfl, ⟨.inl rfl, ⟨.inl rfl, ⟨.inl rfl, trivial⟩⟩⟩⟩⟩⟩⟩⟩ ?_
        exact gX9_apart_b37 C _ h
      · replace h := ab_neg hc3 h
        refine ab_iload C dX9_apart_25 rfl ?_
        refine ab_iconst C dX9_apart_27 (v := 4) rfl ?_
        refine ab_icmp_ge C (tgt := 37) dX9_apart_28 (by decide) (fun hc4 => ?_) (fun hc4 => ?_)
        · replace h := ab_pos hc4 h
          refine ab_weak (lv' := [none, none, none, none, none, none, none, none]) ⟨.inl rfl, ⟨.inl rfl, ⟨.inl rfl, ⟨.inl rfl, ⟨.inl rfl, ⟨.inl rfl, ⟨.inl rfl, ⟨.inl rfl, trivial⟩⟩⟩⟩⟩⟩⟩⟩ ?_
          exact gX9_apart_b37 C _ h
        · replace h := ab_neg hc4 h
          refine ab_iload_n C dX9_apart_31 rfl ?_
          refine ab_iload C dX9_apart_32 rfl ?_
          refine ab_icmp_ne C (tgt := 39) dX9_apart_34 (by decide) (fun hc5 => ?_) (fun hc5 => ?_)
          · replace h := ab_neg hc5 h
            refine ab_iload_n C dX9_apart_39 rfl ?_
            refine ab_bipush C dX9_apart_40 (v := 100) rfl ?_
            refine ab_idiv C dX9_apart_42 (by decide) ?_
            refine ab_istore C dX9_apart_43 (Nat.le_of_ble_eq_true rfl) ?_
            refine ab_weak (lv' := [some (.inr (.inr (0, 0))), some (.inl x1), some (.inl x2), some (.inl (x1 / 10)), some (.inl (ab_mod x1 10)), some (.inl (x2 / 100)), none, none]) ⟨.inr rfl, ⟨.inr rfl, ⟨.inr rfl, ⟨.inr rfl, ⟨.inr rfl, ⟨.inr rfl, ⟨.inl rfl, ⟨.inl rfl, trivial⟩⟩⟩⟩⟩⟩⟩⟩ ?_
            refine ab_iload_n C dX9_apart_45 rfl ?_
            refine ab_bipush C dX9_apart_46 (v := 10) rfl ?_
            refine ab_idiv C dX9_apart_48 (by decide) ?_
            refine ab_bipush C dX9_apart_49 (v := 10) rfl ?_
            refine ab_irem C dX9_apart_51 (by decide) ?_
            refine ab_istore C dX9_apart_52 (Nat.le_of_ble_eq_true rfl) ?_
            refine ab_iload_n C dX9_apart_54 rfl ?_
            refine ab_bipush C dX9_apart_55 (v := 10) rfl ?_
            refine ab_irem C dX9_apart_57 (by decide) ?_
            refine ab_istore C dX9_apart_58 (Nat.le_of_ble_eq_true rfl) ?_
            refine ab_aload_n C dX9_apart_60 rfl ?_
            refine ab_getR C dX9_apart_61 flX9_10 rkC_0 rfl mmC_0 ?_
            refine ab_iload C dX9_apart_64 rfl ?_
            obtain ⟨q6, hq6, h⟩ := ab_bind h
            refine ab_inv1 C dX9_apart_66 mlX9_103 yvX7_has rkC_1 ⟨_, _, rfl⟩ mmC_1 (tX7_has l _ _ hq6) (Nat.le_of_ble_eq_true rfl) (Nat.le_of_ble_eq_true rfl) rfl (Nat.le_of_ble_eq_true rfl) ?_
            refine ab_if_eq C (tgt := 103) dX9_apart_69 (by decide) (fun hc7 => ?_) (fun hc7 => ?_)
            · replace h := ab_pos hc7 h
              refine ab_weak (lv' := [none, none, none, none, none, none, none, none]) ⟨.inl rfl, ⟨.inl rfl, ⟨.inl rfl, ⟨.inl rfl, ⟨.inl rfl, ⟨.inl rfl, ⟨.inl rfl, ⟨.inl rfl, trivial⟩⟩⟩⟩⟩⟩⟩⟩ ?_
              exact gX9_apart_b103 C _ h
            · replace h := ab_neg hc7 h
              refine ab_aload_n C dX9_apart_72 rfl ?_
              refine ab_getR C dX9_apart_73 flX9_10 rkC_0 rfl mmC_0 ?_
              refine ab_iload C dX9_apart_76 rfl ?_
              obtain ⟨q8, hq8, h⟩ := ab_bind h
              refine ab_inv1 C dX9_apart_78 mlX9_103 yvX7_has rkC_1 ⟨_, _, rfl⟩ mmC_1 (tX7_has l _ _ hq8) (Nat.le_of_ble_eq_true rfl) (Nat.le_of_ble_eq_true rfl) rfl (Nat.le_of_ble_eq_true rfl) ?_
              refine ab_if_eq C (tgt := 103) dX9_apart_81 (by decide) (fun hc9 => ?_) (fun hc9 => ?_)
              · replace h := ab_pos hc9 h
                refine ab_weak (lv' := [none, none, none, none, none, none, none, none]) ⟨.inl rfl, ⟨.inl rfl, ⟨.inl rfl, ⟨.inl rfl, ⟨.inl rfl, ⟨.inl rfl, ⟨.inl rfl, ⟨.inl rfl, trivial⟩⟩⟩⟩⟩⟩⟩⟩ ?_
                exact gX9_apart_b103 C _ h
              · replace h := ab_neg hc9 h
                refine ab_aload_n C dX9_apart_84 rfl ?_
                refine ab_getR C dX9_apart_85 flX9_10 rkC_0 rfl mmC_0 ?_
                refine ab_iload C dX9_apart_88 rfl ?_
                obtain ⟨q10, hq10, h⟩ := ab_bind h
                refine ab_inv1 C dX9_apart_90 mlX9_103 yvX7_has rkC_1 ⟨_, _, rfl⟩ mmC_1 (tX7_has l _ _ hq10) (Nat.le_of_ble_eq_true rfl) (Nat.le_of_ble_eq_true rfl) rfl (Nat.le_of_ble_eq_true rfl) ?_
                refine ab_if_eq C (tgt := 103) dX9_apart_93 (by decide) (fun hc11 => ?_) (fun hc11 => ?_)
                · replace h := ab_pos hc11 h
                  refine ab_weak (lv' := [none, none, none, none, none, none, none, none]) ⟨.inl rfl, ⟨.inl rfl, ⟨.inl rfl, ⟨.inl rfl, ⟨.inl rfl, ⟨.inl rfl, ⟨.inl rfl, ⟨.inl rfl, trivial⟩⟩⟩⟩⟩⟩⟩⟩ ?_
                  exact gX9_apart_b103 C _ h
                · replace h := ab_neg hc11 h
                  refine ab_iload C dX9_apart_96 rfl ?_
                  refine ab_iload C dX9_apart_98 rfl ?_
                  refine ab_icmp_ne C (tgt := 105) dX9_apart_100 (by decide) (fun hc12 => ?_) (fun hc12 => ?_)
                  · replace h := ab_neg hc12 h
                    refine ab_aload_n C dX9_apart_105 rfl ?_
                    refine ab_getR C dX9_apart_106 flX9_49 rkC_0 rfl mmC_0 ?_
                    refine ab_iload_n C dX9_apart_109 rfl ?_
                    refine ab_iconst C dX9_apart_110 (v := 0) rfl ?_
                    refine ab_iconst C dX9_apart_111 (v := 0) rfl ?_
                    refine ab_iload C dX9_apart_112 rfl ?_
                    refine ab_iload C dX9_apart_114 rfl ?_
                    refine ab_iload C dX9_apart_116 rfl ?_
                    obtain ⟨q13, hq13, h⟩ := ab_bind h
                    refine ab_inv1 C dX9_apart_118 mlX9_274 yvX1_shareOf rkC_21 ⟨_, _, rfl⟩ mmC_21 (tX1_shareOf l _ _ _ _ _ _ _ hq13) (Nat.le_of_ble_eq_true rfl) (Nat.le_of_ble_eq_true rfl) rfl (Nat.le_of_ble_eq_true rfl) ?_
                    refine ab_aload_n C dX9_apart_121 rfl ?_
                    refine ab_getR C dX9_apart_122 flX9_49 rkC_0 rfl mmC_0 ?_
                    refine ab_iload C dX9_apart_125 rfl ?_
                    refine ab_iconst C dX9_apart_127 (v := 0) rfl ?_
                    refine ab_iconst C dX9_apart_128 (v := 0) rfl ?_
                    refine ab_iload C dX9_apart_129 rfl ?_
                    refine ab_iload C dX9_apart_131 rfl ?_
                    refine ab_iload C dX9_apart_133 rfl ?_
                    obtain ⟨q14, hq14, h⟩ := ab_bind h
                    refine ab_inv1 C dX9_apart_135 mlX9_274 yvX1_shareOf rkC_21 ⟨_, _, rfl⟩ mmC_21 (tX1_shareOf l _ _ _ _ _ _ _ hq14) (Nat.le_of_ble_eq_true rfl) (Nat.le_of_ble_eq_true rfl) rfl (Nat.le_of_ble_eq_true rfl) ?_
                    obtain ⟨q15, hq15, h⟩ := ab_bind h
                    refine ab_invS1 C dX9_apart_138 mlX9_278 ysX9_timesTill (tX9_timesTill l _ _ _ hq15) (Nat.le_of_ble_eq_true rfl) (Nat.le_of_ble_eq_true rfl) rfl (Nat.le_of_ble_eq_true rfl) ?_
                    obtain rfl := Option.some.inj h
                    exact ab_iret C dX9_apart_141
                  · replace h := ab_pos hc12 h
                    refine ab_weak (lv' := [none, none, none, none, none, none, none, none]) ⟨.inl rfl, ⟨.inl rfl, ⟨.inl rfl, ⟨.inl rfl, ⟨.inl rfl, ⟨.inl rfl, ⟨.inl rfl, ⟨.inl rfl, trivial⟩⟩⟩⟩⟩⟩⟩⟩ ?_
                    exact gX9_apart_b103 C _ h
          · replace h := ab_pos hc5 h
            refine ab_weak (lv' := [none, none, none, none, none, none, none, none]) ⟨.inl rfl, ⟨.inl rfl, ⟨.inl rfl, ⟨.inl rfl, ⟨.inl rfl, ⟨.inl rfl, ⟨.inl rfl, ⟨.inl rfl, trivial⟩⟩⟩⟩⟩⟩⟩⟩ ?_
            exact gX9_apart_b37 C _ h
end
def fX9_areHosts_b16 (t0 : Int32) : Option Int32 := (if ab_isb t0 = true then some t0 else none)
def fX9_areHosts_b15 : Option Int32 := fX9_areHosts_b16 0
def fX9_areHosts (x0 : Int32) : Option Int32 := (if x0 < 1 then fX9_areHosts_b15 else (if 15 < x0 then fX9_areHosts_b15 else fX9_areHosts_b16 1))
section
variable {p : Program} {l : Launch} {e : Env} {s : State} {m : MethodId} {args : Array Value} {below : List Frame} {meth : Method} {c : Code} {D : va_G} {cA : Nat → ClassId} {ad : Nat → Nat → Nat}
set_option maxRecDepth 100000 in
set_option maxHeartbeats 4000000 in
theorem gX9_areHosts_b16 {R : Int32} (C : ab_C yC p s m args meth c D cA ad cX9_areHosts 1 RX9 (some .boolean)) {σ : ab_S} (t0 : Int32) (h : fX9_areHosts_b16 t0 = some R) : ab_G yC p l e s m args below meth c D cA ad 1 0 (some (.inl R)) σ 16 [none] [.inl t0] σ := by
  obtain ⟨hg1, h⟩ := ab_grd h
  obtain rfl := Option.some.inj h
  exact ab_zret C dX9_areHosts_16 hg1
set_option maxRecDepth 100000 in
set_option maxHeartbeats 4000000 in
theorem gX9_areHosts_b15 {R : Int32} (C : ab_C yC p s m args meth c D cA ad cX9_areHosts 1 RX9 (some .boolean)) {σ : ab_S} (h : fX9_areHosts_b15 = some R) : ab_G yC p l e s m args below meth c D cA ad 1 0 (some (.inl R)) σ 15 [none] [] σ := by
  refine ab_iconst C dX9_areHosts_15 (v := 0) rfl ?_
  refine ab_weak (lv' := [none]) ⟨.inl rfl, trivial⟩ ?_
  exact gX9_areHosts_b16 C _ h
set_option maxRecDepth 100000 in
set_option maxHeartbeats 4000000 in
theorem tX9_areHosts (l : Launch) (x0 : Int32) (σ : ab_S) {R : Int32} (h : fX9_areHosts x0 = some R) : ab_M l yC yX9_areHosts cX9_areHosts 1 (some .boolean) 0 [.inl x0] σ (some (.inl R)) σ := by
  refine ab_M_intro ndC (by decide) (Nat.le_of_ble_eq_true rfl) ?_
  intro p e s m args below meth c D cA ad C
  have C : ab_C yC p s m args meth c D cA ad cX9_areHosts 1 RX9 (some .boolean) := C
  refine ab_weak (lv' := [some (.inl x0)]) ⟨.inr rfl, trivial⟩ ?_
  refine ab_iload_n C dX9_areHosts_0 rfl ?_
  refine ab_iconst C dX9_areHosts_1 (v := 1) rfl ?_
  refine ab_icmp_lt C (tgt := 15) dX9_areHosts_2 (by decide) (fun hc1 => ?_) (fun hc1 => ?_)
  · replace h := ab_pos hc1 h
    refine ab_weak (lv' := [none]) ⟨.inl rfl, trivial⟩ ?_
    exact gX9_areHosts_b15 C h
  · replace h := ab_neg hc1 h
    refine ab_iload_n C dX9_areHosts_5 rfl ?_
    refine ab_bipush C dX9_areHosts_6 (v := 15) rfl ?_
    refine ab_icmp_gt C (tgt := 15) dX9_areHosts_8 (by decide) (fun hc2 => ?_) (fun hc2 => ?_)
    · replace h := ab_pos hc2 h
      refine ab_weak (lv' := [none]) ⟨.inl rfl, trivial⟩ ?_
      exact gX9_areHosts_b15 C h
    · replace h := ab_neg hc2 h
      refine ab_iconst C dX9_areHosts_11 (v := 1) rfl ?_
      refine ab_goto C (tgt := 16) dX9_areHosts_12 (by decide) ?_
      refine ab_weak (lv' := [none]) ⟨.inl rfl, trivial⟩ ?_
      exact gX9_areHosts_b16 C _ h
end
def fX9_back (σ : ab_S) : Option (Int32 × ab_S) := (if (σ.1 0 0 3) = 0 then some ((-5), σ) else (fX4_become_r5_9 σ).bind fun q2 => some (q2.1 5 0 3, q2))
section
variable {p : Program} {l : Launch} {e : Env} {s : State} {m : MethodId} {args : Array Value} {below : List Frame} {meth : Method} {c : Code} {D : va_G} {cA : Nat → ClassId} {ad : Nat → Nat → Nat}
set_option maxRecDepth 100000 in
set_option maxHeartbeats 4000000 in
theorem tX9_back (l : Launch) (σ : ab_S) {R : (Int32 × ab_S)} (h : fX9_back σ = some R) : ab_M l yC yX9_back cX9_back 1 (some .int) 2 [.inr (.inr (0, 0))] σ (some (.inl R.1)) R.2 := by
  refine ab_M_intro ndC (by decide) (Nat.le_of_ble_eq_true rfl) ?_
  intro p e s m args below meth c D cA ad C
  have C : ab_C yC p s m args meth c D cA ad cX9_back 1 RX9 (some .int) := C
  refine ab_weak (lv' := [some (.inr (.inr (0, 0)))]) ⟨.inr rfl, trivial⟩ ?_
  refine ab_aload_n C dX9_back_0 rfl ?_
  refine ab_getI C dX9_back_1 flX9_26 rkC_0 rfl mmC_0 ?_
  refine ab_if_ne C (tgt := 10) dX9_back_4 (by decide) (fun hc1 => ?_) (fun hc1 => ?_)
  · replace h := ab_neg hc1 h
    refine ab_aload_n C dX9_back_10 rfl ?_
    refine ab_getR C dX9_back_11 flX9_19 rkC_0 rfl mmC_0 ?_
    refine ab_aload_n C dX9_back_14 rfl ?_
    refine ab_getR C dX9_back_15 flX9_23 rkC_0 rfl mmC_0 ?_
    obtain ⟨q2, hq2, h⟩ := ab_bind h
    refine ab_inv0 C dX9_back_18 mlX9_304 yvX4_become rkC_5 ⟨_, _, rfl⟩ mmC_5 (tX4_become_r5_9 l _ hq2) (Nat.le_of_ble_eq_true rfl) (Nat.le_of_ble_eq_true rfl) rfl (Nat.le_of_ble_eq_true rfl) ?_
    refine ab_aload_n C dX9_back_21 rfl ?_
    refine ab_getR C dX9_back_22 flX9_19 rkC_0 rfl mmC_0 ?_
    refine ab_getI C dX9_back_25 flX9_138 rkC_5 rfl mmC_5 ?_
    obtain rfl := Option.some.inj h
    exact ab_iret C dX9_back_28
  · replace h := ab_pos hc1 h
    refine ab_bipush C dX9_back_7 (v := (-5)) rfl ?_
    obtain rfl := Option.some.inj h
    exact ab_iret C dX9_back_9
end
def fX9_best_b32 (t0 : Int32) (σ : ab_S) : Option (Int32 × ab_S) := some (t0, σ)
def fX9_best (σ : ab_S) : Option (Int32 × ab_S) := (fX1_weighAll σ).bind fun q1 => (if (lg_cmp q1.1 0) = 0 then fX9_best_b32 ((-2)) q1.2 else (fX1_likeliest q1.2).bind fun q3 => fX9_best_b32 q3 q1.2)
section
variable {p : Program} {l : Launch} {e : Env} {s : State} {m : MethodId} {args : Array Value} {below : List Frame} {meth : Method} {c : Code} {D : va_G} {cA : Nat → ClassId} {ad : Nat → Nat → Nat}
set_option maxRecDepth 100000 in
set_option maxHeartbeats 4000000 in
theorem gX9_best_b32 {R : (Int32 × ab_S)} (C : ab_C yC p s m args meth c D cA ad cX9_best 1 RX9 (some .int)) (t0 : Int32) (σ : ab_S) (h : fX9_best_b32 t0 σ = some R) : ab_G yC p l e s m args below meth c D cA ad 1 6 (some (.inl R.1)) R.2 32 [none] [.inl t0] σ := by
  obtain rfl := Option.some.inj h
  exact ab_iret C dX9_best_32
set_option maxRecDepth 100000 in
set_option maxHeartbeats 4000000 in
theorem tX9_best (l : Launch) (σ : ab_S) {R : (Int32 × ab_S)} (h : fX9_best σ = some R) : ab_M l yC yX9_best cX9_best 1 (some .int) 6 [.inr (.inr (0, 0))] σ (some (.inl R.1)) R.2 := by
  refine ab_M_intro ndC (by decide) (Nat.le_of_ble_eq_true rfl) ?_
  intro p e s m args below meth c D cA ad C
  have C : ab_C yC p s m args meth c D cA ad cX9_best 1 RX9 (some .int) := C
  refine ab_weak (lv' := [some (.inr (.inr (0, 0)))]) ⟨.inr rfl, trivial⟩ ?_
  refine ab_aload_n C dX9_best_0 rfl ?_
  refine ab_getR C dX9_best_1 flX9_49 rkC_0 rfl mmC_0 ?_
  refine ab_aload_n C dX9_best_4 rfl ?_
  refine ab_getR C dX9_best_5 flX9_19 rkC_0 rfl mmC_0 ?_
  obtain ⟨q1, hq1, h⟩ := ab_bind h
  refine ab_inv1 C dX9_best_8 mlX9_201 yvX1_weighAll rkC_21 ⟨_, _, rfl⟩ mmC_21 (tX1_weighAll l _ hq1) (Nat.le_of_ble_eq_true rfl) (Nat.le_of_ble_eq_true rfl) rfl (Nat.le_of_ble_eq_true rfl) ?_
  refine ab_lconst C dX9_best_11 (v := 0) rfl ?_
  refine ab_lcmp C dX9_best_12  ?_
  refine ab_if_ne C (tgt := 21) dX9_best_13 (by decide) (fun hc2 => ?_) (fun hc2 => ?_)
  · replace h := ab_neg hc2 h
    refine ab_aload_n C dX9_best_21 rfl ?_
    refine ab_getR C dX9_best_22 flX9_49 rkC_0 rfl mmC_0 ?_
    refine ab_aload_n C dX9_best_25 rfl ?_
    refine ab_getR C dX9_best_26 flX9_19 rkC_0 rfl mmC_0 ?_
    obtain ⟨q3, hq3, h⟩ := ab_bind h
    refine ab_inv1 C dX9_best_29 mlX9_215 yvX1_likeliest rkC_21 ⟨_, _, rfl⟩ mmC_21 (tX1_likeliest l _ hq3) (Nat.le_of_ble_eq_true rfl) (Nat.le_of_ble_eq_true rfl) rfl (Nat.le_of_ble_eq_true rfl) ?_
    refine ab_weak (lv' := [none]) ⟨.inl rfl, trivial⟩ ?_
    exact gX9_best_b32 C _ _ h
  · replace h := ab_pos hc2 h
    refine ab_bipush C dX9_best_16 (v := (-2)) rfl ?_
    refine ab_goto C (tgt := 32) dX9_best_18 (by decide) ?_
    refine ab_weak (lv' := [none]) ⟨.inl rfl, trivial⟩ ?_
    exact gX9_best_b32 C _ _ h
end
def fX9_body_b32 (t0 : Int32) (σ : ab_S) : Option (Int32 × ab_S) := some (t0, σ)
def fX9_body (x1 : Int32) (σ : ab_S) : Option (Int32 × ab_S) := (fX0_isKind x1).bind fun q1 => (if q1 = 0 then some ((-1), σ) else (fX0_isFull σ).bind fun q3 => (if q3 = 0 then (fX0_add x1 σ).bind fun q5 => fX9_body_b32 q5.1 q5.2 else fX9_body_b32 ((-3)) σ))
section
variable {p : Program} {l : Launch} {e : Env} {s : State} {m : MethodId} {args : Array Value} {below : List Frame} {meth : Method} {c : Code} {D : va_G} {cA : Nat → ClassId} {ad : Nat → Nat → Nat}
set_option maxRecDepth 100000 in
set_option maxHeartbeats 4000000 in
theorem gX9_body_b32 {R : (Int32 × ab_S)} (C : ab_C yC p s m args meth c D cA ad cX9_body 2 RX9 (some .int)) (t0 : Int32) (σ : ab_S) (h : fX9_body_b32 t0 σ = some R) : ab_G yC p l e s m args below meth c D cA ad 2 2 (some (.inl R.1)) R.2 32 [none, none] [.inl t0] σ := by
  obtain rfl := Option.some.inj h
  exact ab_iret C dX9_body_32
set_option maxRecDepth 100000 in
set_option maxHeartbeats 4000000 in
theorem tX9_body (l : Launch) (x1 : Int32) (σ : ab_S) {R : (Int32 × ab_S)} (h : fX9_body x1 σ = some R) : ab_M l yC yX9_body cX9_body 2 (some .int) 2 [.inr (.inr (0, 0)), .inl x1] σ (some (.inl R.1)) R.2 := by
  refine ab_M_intro ndC (by decide) (Nat.le_of_ble_eq_true rfl) ?_
  intro p e s m args below meth c D cA ad C
  have C : ab_C yC p s m args meth c D cA ad cX9_body 2 RX9 (some .int) := C
  refine ab_weak (lv' := [some (.inr (.inr (0, 0))), some (.inl x1)]) ⟨.inr rfl, ⟨.inr rfl, trivial⟩⟩ ?_
  refine ab_iload_n C dX9_body_0 rfl ?_
  obtain ⟨q1, hq1, h⟩ := ab_bind h
  refine ab_invS1 C dX9_body_1 mlX9_315 ysX0_isKind (tX0_isKind l _ _ hq1) (Nat.le_of_ble_eq_true rfl) (Nat.le_of_ble_eq_true rfl) rfl (Nat.le_of_ble_eq_true rfl) ?_
  refine ab_if_ne C (tgt := 9) dX9_body_4 (by decide) (fun hc2 => ?_) (fun hc2 => ?_)
  · replace h := ab_neg hc2 h
    refine ab_aload_n C dX9_body_9 rfl ?_
    refine ab_getR C dX9_body_10 flX9_65 rkC_0 rfl mmC_0 ?_
    obtain ⟨q3, hq3, h⟩ := ab_bind h
    refine ab_inv1 C dX9_body_13 mlX9_318 yvX0_isFull rkC_36 ⟨_, _, rfl⟩ mmC_36 (tX0_isFull l _ hq3) (Nat.le_of_ble_eq_true rfl) (Nat.le_of_ble_eq_true rfl) rfl (Nat.le_of_ble_eq_true rfl) ?_
    refine ab_if_eq C (tgt := 24) dX9_body_16 (by decide) (fun hc4 => ?_) (fun hc4 => ?_)
    · replace h := ab_pos hc4 h
      refine ab_aload_n C dX9_body_24 rfl ?_
      refine ab_getR C dX9_body_25 flX9_65 rkC_0 rfl mmC_0 ?_
      refine ab_iload_n C dX9_body_28 rfl ?_
      obtain ⟨q5, hq5, h⟩ := ab_bind h
      refine ab_inv1 C dX9_body_29 mlX9_319 yvX0_add rkC_36 ⟨_, _, rfl⟩ mmC_36 (tX0_add l _ _ hq5) (Nat.le_of_ble_eq_true rfl) (Nat.le_of_ble_eq_true rfl) rfl (Nat.le_of_ble_eq_true rfl) ?_
      refine ab_weak (lv' := [none, none]) ⟨.inl rfl, ⟨.inl rfl, trivial⟩⟩ ?_
      exact gX9_body_b32 C _ _ h
    · replace h := ab_neg hc4 h
      refine ab_bipush C dX9_body_19 (v := (-3)) rfl ?_
      refine ab_goto C (tgt := 32) dX9_body_21 (by decide) ?_
      refine ab_weak (lv' := [none, none]) ⟨.inl rfl, ⟨.inl rfl, trivial⟩⟩ ?_
      exact gX9_body_b32 C _ _ h
  · replace h := ab_pos hc2 h
    refine ab_iconst C dX9_body_7 (v := (-1)) rfl ?_
    obtain rfl := Option.some.inj h
    exact ab_iret C dX9_body_8
end
def fX9_choose (x1 : Int32) (σ : ab_S) : Option (Int32 × ab_S) := (fX7_has x1 σ).bind fun q1 => (if q1 = 0 then some ((-1), σ) else (fX4_isOpen x1 σ).bind fun q3 => (if q3 = 0 then ab_k (ab_si σ 5 0 4 x1) fun σ5 => some (σ.1 5 0 4, σ5) else some ((-5), σ)))
section
variable {p : Program} {l : Launch} {e : Env} {s : State} {m : MethodId} {args : Array Value} {below : List Frame} {meth : Method} {c : Code} {D : va_G} {cA : Nat → ClassId} {ad : Nat → Nat → Nat}
set_option maxRecDepth 100000 in
set_option maxHeartbeats 4000000 in
theorem tX9_choose (l : Launch) (x1 : Int32) (σ : ab_S) {R : (Int32 × ab_S)} (h : fX9_choose x1 σ = some R) : ab_M l yC yX9_choose cX9_choose 3 (some .int) 2 [.inr (.inr (0, 0)), .inl x1] σ (some (.inl R.1)) R.2 := by
  refine ab_M_intro ndC (by decide) (Nat.le_of_ble_eq_true rfl) ?_
  intro p e s m args below meth c D cA ad C
  have C : ab_C yC p s m args meth c D cA ad cX9_choose 3 RX9 (some .int) := C
  refine ab_weak (lv' := [some (.inr (.inr (0, 0))), some (.inl x1), none]) ⟨.inr rfl, ⟨.inr rfl, ⟨.inl rfl, trivial⟩⟩⟩ ?_
  refine ab_aload_n C dX9_choose_0 rfl ?_
  refine ab_getR C dX9_choose_1 flX9_10 rkC_0 rfl mmC_0 ?_
  refine ab_iload_n C dX9_choose_4 rfl ?_
  obtain ⟨q1, hq1, h⟩ := ab_bind h
  refine ab_inv1 C dX9_choose_5 mlX9_103 yvX7_has rkC_1 ⟨_, _, rfl⟩ mmC_1 (tX7_has l _ _ hq1) (Nat.le_of_ble_eq_true rfl) (Nat.le_of_ble_eq_true rfl) rfl (Nat.le_of_ble_eq_true rfl) ?_
  refine ab_if_ne C (tgt := 13) dX9_choose_8 (by decide) (fun hc2 => ?_) (fun hc2 => ?_)
  · replace h := ab_neg hc2 h
    refine ab_aload_n C dX9_choose_13 rfl ?_
    refine ab_getR C dX9_choose_14 flX9_19 rkC_0 rfl mmC_0 ?_
    refine ab_iload_n C dX9_choose_17 rfl ?_
    obtain ⟨q3, hq3, h⟩ := ab_bind h
    refine ab_inv1 C dX9_choose_18 mlX9_150 yvX4_isOpen rkC_5 ⟨_, _, rfl⟩ mmC_5 (tX4_isOpen l _ _ hq3) (Nat.le_of_ble_eq_true rfl) (Nat.le_of_ble_eq_true rfl) rfl (Nat.le_of_ble_eq_true rfl) ?_
    refine ab_if_eq C (tgt := 27) dX9_choose_21 (by decide) (fun hc4 => ?_) (fun hc4 => ?_)
    · replace h := ab_pos hc4 h
      refine ab_aload_n C dX9_choose_27 rfl ?_
      refine ab_getR C dX9_choose_28 flX9_19 rkC_0 rfl mmC_0 ?_
      refine ab_getI C dX9_choose_31 flX9_162 rkC_5 rfl mmC_5 ?_
      refine ab_istore_n C dX9_choose_34 (Nat.le_of_ble_eq_true rfl) ?_
      refine ab_aload_n C dX9_choose_35 rfl ?_
      refine ab_getR C dX9_choose_36 flX9_19 rkC_0 rfl mmC_0 ?_
      refine ab_iload_n C dX9_choose_39 rfl ?_
      refine ab_putI C dX9_choose_40 fpX9_162 rkC_5 rfl mmC_5 rfl rfl ?_
      refine ab_nmS (fun σ5 eσ5 => ?_)
      replace h := ab_kh eσ5 h
      refine ab_iload_n C dX9_choose_43 rfl ?_
      obtain rfl := Option.some.inj h
      exact ab_iret C dX9_choose_44
    · replace h := ab_neg hc4 h
      refine ab_bipush C dX9_choose_24 (v := (-5)) rfl ?_
      obtain rfl := Option.some.inj h
      exact ab_iret C dX9_choose_26
  · replace h := ab_pos hc2 h
    refine ab_iconst C dX9_choose_11 (v := (-1)) rfl ?_
    obtain rfl := Option.some.inj h
    exact ab_iret C dX9_choose_12
end
def fX9_code_b20 (σ : ab_S) : Option (Int32 × ab_S) := some ((-1), σ)
def fX9_code (x1 : Int32) (x2 : Int32) (σ : ab_S) : Option (Int32 × ab_S) := (fX7_has x1 σ).bind fun q1 => (if q1 = 0 then fX9_code_b20 σ else (if x2 < 0 then fX9_code_b20 σ else (if x2 ≤ 4 then (fX7_say x1 x2 σ).bind fun q5 => some (q5.1, q5.2) else fX9_code_b20 σ)))
section
variable {p : Program} {l : Launch} {e : Env} {s : State} {m : MethodId} {args : Array Value} {below : List Frame} {meth : Method} {c : Code} {D : va_G} {cA : Nat → ClassId} {ad : Nat → Nat → Nat}
set_option maxRecDepth 100000 in
set_option maxHeartbeats 4000000 in
theorem gX9_code_b20 {R : (Int32 × ab_S)} (C : ab_C yC p s m args meth c D cA ad cX9_code 3 RX9 (some .int)) (σ : ab_S) (h : fX9_code_b20 σ = some R) : ab_G yC p l e s m args below meth c D cA ad 3 3 (some (.inl R.1)) R.2 20 [none, none, none] [] σ := by
  refine ab_iconst C dX9_code_20 (v := (-1)) rfl ?_
  obtain rfl := Option.some.inj h
  exact ab_iret C dX9_code_21
set_option maxRecDepth 100000 in
set_option maxHeartbeats 4000000 in
theorem tX9_code (l : Launch) (x1 : Int32) (x2 : Int32) (σ : ab_S) {R : (Int32 × ab_S)} (h : fX9_code x1 x2 σ = some R) : ab_M l yC yX9_code cX9_code 3 (some .int) 3 [.inr (.inr (0, 0)), .inl x1, .inl x2] σ (some (.inl R.1)) R.2 := by
  refine ab_M_intro ndC (by decide) (Nat.le_of_ble_eq_true rfl) ?_
  intro p e s m args below meth c D cA ad C
  have C : ab_C yC p s m args meth c D cA ad cX9_code 3 RX9 (some .int) := C
  refine ab_weak (lv' := [some (.inr (.inr (0, 0))), some (.inl x1), some (.inl x2)]) ⟨.inr rfl, ⟨.inr rfl, ⟨.inr rfl, trivial⟩⟩⟩ ?_
  refine ab_aload_n C dX9_code_0 rfl ?_
  refine ab_getR C dX9_code_1 flX9_10 rkC_0 rfl mmC_0 ?_
  refine ab_iload_n C dX9_code_4 rfl ?_
  obtain ⟨q1, hq1, h⟩ := ab_bind h
  refine ab_inv1 C dX9_code_5 mlX9_103 yvX7_has rkC_1 ⟨_, _, rfl⟩ mmC_1 (tX7_has l _ _ hq1) (Nat.le_of_ble_eq_true rfl) (Nat.le_of_ble_eq_true rfl) rfl (Nat.le_of_ble_eq_true rfl) ?_
  refine ab_if_eq C (tgt := 20) dX9_code_8 (by decide) (fun hc2 => ?_) (fun hc2 => ?_)
  · replace h := ab_pos hc2 h
    refine ab_weak (lv' := [none, none, none]) ⟨.inl rfl, ⟨.inl rfl, ⟨.inl rfl, trivial⟩⟩⟩ ?_
    exact gX9_code_b20 C _ h
  · replace h := ab_neg hc2 h
    refine ab_iload_n C dX9_code_11 rfl ?_
    refine ab_if_lt C (tgt := 20) dX9_code_12 (by decide) (fun hc3 => ?_) (fun hc3 => ?_)
    · replace h := ab_pos hc3 h
      refine ab_weak (lv' := [none, none, none]) ⟨.inl rfl, ⟨.inl rfl, ⟨.inl rfl, trivial⟩⟩⟩ ?_
      exact gX9_code_b20 C _ h
    · replace h := ab_neg hc3 h
      refine ab_iload_n C dX9_code_15 rfl ?_
      refine ab_iconst C dX9_code_16 (v := 4) rfl ?_
      refine ab_icmp_le C (tgt := 22) dX9_code_17 (by decide) (fun hc4 => ?_) (fun hc4 => ?_)
      · replace h := ab_pos hc4 h
        refine ab_aload_n C dX9_code_22 rfl ?_
        refine ab_getR C dX9_code_23 flX9_10 rkC_0 rfl mmC_0 ?_
        refine ab_iload_n C dX9_code_26 rfl ?_
        refine ab_iload_n C dX9_code_27 rfl ?_
        obtain ⟨q5, hq5, h⟩ := ab_bind h
        refine ab_inv1 C dX9_code_28 mlX9_289 yvX7_say rkC_1 ⟨_, _, rfl⟩ mmC_1 (tX7_say l _ _ _ hq5) (Nat.le_of_ble_eq_true rfl) (Nat.le_of_ble_eq_true rfl) rfl (Nat.le_of_ble_eq_true rfl) ?_
        obtain rfl := Option.some.inj h
        exact ab_iret C dX9_code_31
      · replace h := ab_neg hc4 h
        refine ab_weak (lv' := [none, none, none]) ⟨.inl rfl, ⟨.inl rfl, ⟨.inl rfl, trivial⟩⟩⟩ ?_
        exact gX9_code_b20 C _ h
end
def fX9_count (x1 : Int32) (σ : ab_S) : Option Int32 := (if x1 = 0 then some (σ.1 1 0 3) else (if x1 = 1 then (fX4_openDoors σ).bind fun q3 => some q3 else (if x1 = 2 then some (σ.1 5 0 3) else (if x1 = 3 then some (σ.1 18 0 2) else (if x1 = 4 then some (σ.1 13 0 4) else (if x1 = 5 then some (σ.1 36 0 2) else (if x1 = 6 then some (σ.1 36 0 3) else some ((-1)))))))))
section
variable {p : Program} {l : Launch} {e : Env} {s : State} {m : MethodId} {args : Array Value} {below : List Frame} {meth : Method} {c : Code} {D : va_G} {cA : Nat → ClassId} {ad : Nat → Nat → Nat}
set_option maxRecDepth 100000 in
set_option maxHeartbeats 4000000 in
theorem tX9_count (l : Launch) (x1 : Int32) (σ : ab_S) {R : Int32} (h : fX9_count x1 σ = some R) : ab_M l yC yX9_count cX9_count 2 (some .int) 2 [.inr (.inr (0, 0)), .inl x1] σ (some (.inl R)) σ := by
  refine ab_M_intro ndC (by decide) (Nat.le_of_ble_eq_true rfl) ?_
  intro p e s m args below meth c D cA ad C
  have C : ab_C yC p s m args meth c D cA ad cX9_count 2 RX9 (some .int) := C
  refine ab_weak (lv' := [some (.inr (.inr (0, 0))), some (.inl x1)]) ⟨.inr rfl, ⟨.inr rfl, trivial⟩⟩ ?_
  refine ab_iload_n C dX9_count_0 rfl ?_
  by_cases hc1 : x1 = 0
  · replace h := ab_pos hc1 h
    refine ab_tswIn C (tgt := 44) dX9_count_1.1 0 (by rw [hc1]; decide) (by decide) (by decide) rfl (by decide) ?_
    refine ab_aload_n C dX9_count_44 rfl ?_
    refine ab_getR C dX9_count_45 flX9_10 rkC_0 rfl mmC_0 ?_
    refine ab_getI C dX9_count_48 flX9_76 rkC_1 rfl mmC_1 ?_
    obtain rfl := Option.some.inj h
    exact ab_iret C dX9_count_51
  · replace h := ab_neg hc1 h
    by_cases hc2 : x1 = 1
    · replace h := ab_pos hc2 h
      refine ab_tswIn C (tgt := 52) dX9_count_1.1 1 (by rw [hc2]; decide) (by decide) (by decide) rfl (by decide) ?_
      refine ab_aload_n C dX9_count_52 rfl ?_
      refine ab_getR C dX9_count_53 flX9_19 rkC_0 rfl mmC_0 ?_
      obtain ⟨q3, hq3, h⟩ := ab_bind h
      refine ab_inv1 C dX9_count_56 mlX9_181 yvX4_openDoors rkC_5 ⟨_, _, rfl⟩ mmC_5 (tX4_openDoors l _ hq3) (Nat.le_of_ble_eq_true rfl) (Nat.le_of_ble_eq_true rfl) rfl (Nat.le_of_ble_eq_true rfl) ?_
      obtain rfl := Option.some.inj h
      exact ab_iret C dX9_count_59
    · replace h := ab_neg hc2 h
      by_cases hc4 : x1 = 2
      · replace h := ab_pos hc4 h
        refine ab_tswIn C (tgt := 60) dX9_count_1.1 2 (by rw [hc4]; decide) (by decide) (by decide) rfl (by decide) ?_
        refine ab_aload_n C dX9_count_60 rfl ?_
        refine ab_getR C dX9_count_61 flX9_19 rkC_0 rfl mmC_0 ?_
        refine ab_getI C dX9_count_64 flX9_138 rkC_5 rfl mmC_5 ?_
        obtain rfl := Option.some.inj h
        exact ab_iret C dX9_count_67
      · replace h := ab_neg hc4 h
        by_cases hc5 : x1 = 3
        · replace h := ab_pos hc5 h
          refine ab_tswIn C (tgt := 68) dX9_count_1.1 3 (by rw [hc5]; decide) (by decide) (by decide) rfl (by decide) ?_
          refine ab_aload_n C dX9_count_68 rfl ?_
          refine ab_getR C dX9_count_69 flX9_40 rkC_0 rfl mmC_0 ?_
          refine ab_getI C dX9_count_72 flX9_366 rkC_18 rfl mmC_18 ?_
          obtain rfl := Option.some.inj h
          exact ab_iret C dX9_count_75
        · replace h := ab_neg hc5 h
          by_cases hc6 : x1 = 4
          · replace h := ab_pos hc6 h
            refine ab_tswIn C (tgt := 76) dX9_count_1.1 4 (by rw [hc6]; decide) (by decide) (by decide) rfl (by decide) ?_
            refine ab_aload_n C dX9_count_76 rfl ?_
            refine ab_getR C dX9_count_77 flX9_33 rkC_0 rfl mmC_0 ?_
            refine ab_getI C dX9_count_80 flX9_369 rkC_13 rfl mmC_13 ?_
            obtain rfl := Option.some.inj h
            exact ab_iret C dX9_count_83
          · replace h := ab_neg hc6 h
            by_cases hc7 : x1 = 5
            · replace h := ab_pos hc7 h
              refine ab_tswIn C (tgt := 84) dX9_count_1.1 5 (by rw [hc7]; decide) (by decide) (by decide) rfl (by decide) ?_
              refine ab_aload_n C dX9_count_84 rfl ?_
              refine ab_getR C dX9_count_85 flX9_65 rkC_0 rfl mmC_0 ?_
              refine ab_getI C dX9_count_88 flX9_372 rkC_36 rfl mmC_36 ?_
              obtain rfl := Option.some.inj h
              exact ab_iret C dX9_count_91
            · replace h := ab_neg hc7 h
              by_cases hc8 : x1 = 6
              · replace h := ab_pos hc8 h
                refine ab_tswIn C (tgt := 92) dX9_count_1.1 6 (by rw [hc8]; decide) (by decide) (by decide) rfl (by decide) ?_
                refine ab_aload_n C dX9_count_92 rfl ?_
                refine ab_getR C dX9_count_93 flX9_65 rkC_0 rfl mmC_0 ?_
                refine ab_getI C dX9_count_96 flX9_374 rkC_36 rfl mmC_36 ?_
                obtain rfl := Option.some.inj h
                exact ab_iret C dX9_count_99
              · replace h := ab_neg hc8 h
                refine ab_tswOut C (tgt := 100) dX9_count_1.1 (by have a0 := lv_neT hc1 (a := 0) (by decide); have a1 := lv_neT hc2 (a := 1) (by decide); have a2 := lv_neT hc4 (a := 2) (by decide); have a3 := lv_neT hc5 (a := 3) (by decide); have a4 := lv_neT hc6 (a := 4) (by decide); have a5 := lv_neT hc7 (a := 5) (by decide); have a6 := lv_neT hc8 (a := 6) (by decide); omega) (by decide) ?_
                refine ab_iconst C dX9_count_100 (v := (-1)) rfl ?_
                obtain rfl := Option.some.inj h
                exact ab_iret C dX9_count_101
end
def fX9_doors_b10 (σ : ab_S) : Option (Int32 × ab_S) := some ((-1), σ)
def fX9_doors (x1 : Int32) (σ : ab_S) : Option (Int32 × ab_S) := (if x1 < 2 then fX9_doors_b10 σ else (if x1 ≤ 5 then (fX7_lay x1 σ).bind fun q3 => (fX1_layLaws q3).bind fun q4 => (fX4_beginWithFirstDoor q4).bind fun q5 => (fX2_clear q5).bind fun q6 => ab_k (ab_si q6 0 0 3 0) fun σ7 => some (σ.1 1 0 3, σ7) else fX9_doors_b10 σ))
section
variable {p : Program} {l : Launch} {e : Env} {s : State} {m : MethodId} {args : Array Value} {below : List Frame} {meth : Method} {c : Code} {D : va_G} {cA : Nat → ClassId} {ad : Nat → Nat → Nat}
set_option maxRecDepth 100000 in
set_option maxHeartbeats 4000000 in
theorem gX9_doors_b10 {R : (Int32 × ab_S)} (C : ab_C yC p s m args meth c D cA ad cX9_doors 3 RX9 (some .int)) (σ : ab_S) (h : fX9_doors_b10 σ = some R) : ab_G yC p l e s m args below meth c D cA ad 3 4 (some (.inl R.1)) R.2 10 [none, none, none] [] σ := by
  refine ab_iconst C dX9_doors_10 (v := (-1)) rfl ?_
  obtain rfl := Option.some.inj h
  exact ab_iret C dX9_doors_11
set_option maxRecDepth 100000 in
set_option maxHeartbeats 4000000 in
theorem tX9_doors (l : Launch) (x1 : Int32) (σ : ab_S) {R : (Int32 × ab_S)} (h : fX9_doors x1 σ = some R) : ab_M l yC yX9_doors cX9_doors 3 (some .int) 4 [.inr (.inr (0, 0)), .inl x1] σ (some (.inl R.1)) R.2 := by
  refine ab_M_intro ndC (by decide) (Nat.le_of_ble_eq_true rfl) ?_
  intro p e s m args below meth c D cA ad C
  have C : ab_C yC p s m args meth c D cA ad cX9_doors 3 RX9 (some .int) := C
  refine ab_weak (lv' := [some (.inr (.inr (0, 0))), some (.inl x1), none]) ⟨.inr rfl, ⟨.inr rfl, ⟨.inl rfl, trivial⟩⟩⟩ ?_
  refine ab_iload_n C dX9_doors_0 rfl ?_
  refine ab_iconst C dX9_doors_1 (v := 2) rfl ?_
  refine ab_icmp_lt C (tgt := 10) dX9_doors_2 (by decide) (fun hc1 => ?_) (fun hc1 => ?_)
  · replace h := ab_pos hc1 h
    refine ab_weak (lv' := [none, none, none]) ⟨.inl rfl, ⟨.inl rfl, ⟨.inl rfl, trivial⟩⟩⟩ ?_
    exact gX9_doors_b10 C _ h
  · replace h := ab_neg hc1 h
    refine ab_iload_n C dX9_doors_5 rfl ?_
    refine ab_iconst C dX9_doors_6 (v := 5) rfl ?_
    refine ab_icmp_le C (tgt := 12) dX9_doors_7 (by decide) (fun hc2 => ?_) (fun hc2 => ?_)
    · replace h := ab_pos hc2 h
      refine ab_aload_n C dX9_doors_12 rfl ?_
      refine ab_getR C dX9_doors_13 flX9_10 rkC_0 rfl mmC_0 ?_
      refine ab_getI C dX9_doors_16 flX9_76 rkC_1 rfl mmC_1 ?_
      refine ab_istore_n C dX9_doors_19 (Nat.le_of_ble_eq_true rfl) ?_
      refine ab_aload_n C dX9_doors_20 rfl ?_
      refine ab_getR C dX9_doors_21 flX9_10 rkC_0 rfl mmC_0 ?_
      refine ab_iload_n C dX9_doors_24 rfl ?_
      obtain ⟨q3, hq3, h⟩ := ab_bind h
      refine ab_inv0 C dX9_doors_25 mlX9_80 yvX7_lay rkC_1 ⟨_, _, rfl⟩ mmC_1 (tX7_lay l _ _ hq3) (Nat.le_of_ble_eq_true rfl) (Nat.le_of_ble_eq_true rfl) rfl (Nat.le_of_ble_eq_true rfl) ?_
      refine ab_aload_n C dX9_doors_28 rfl ?_
      refine ab_getR C dX9_doors_29 flX9_49 rkC_0 rfl mmC_0 ?_
      obtain ⟨q4, hq4, h⟩ := ab_bind h
      refine ab_inv0 C dX9_doors_32 mlX9_84 yvX1_layLaws rkC_21 ⟨_, _, rfl⟩ mmC_21 (tX1_layLaws l _ hq4) (Nat.le_of_ble_eq_true rfl) (Nat.le_of_ble_eq_true rfl) rfl (Nat.le_of_ble_eq_true rfl) ?_
      refine ab_aload_n C dX9_doors_35 rfl ?_
      refine ab_getR C dX9_doors_36 flX9_19 rkC_0 rfl mmC_0 ?_
      obtain ⟨q5, hq5, h⟩ := ab_bind h
      refine ab_inv0 C dX9_doors_39 mlX9_87 yvX4_beginWithFirstDoor rkC_5 ⟨_, _, rfl⟩ mmC_5 (tX4_beginWithFirstDoor l _ hq5) (Nat.le_of_ble_eq_true rfl) (Nat.le_of_ble_eq_true rfl) rfl (Nat.le_of_ble_eq_true rfl) ?_
      refine ab_aload_n C dX9_doors_42 rfl ?_
      refine ab_getR C dX9_doors_43 flX9_33 rkC_0 rfl mmC_0 ?_
      obtain ⟨q6, hq6, h⟩ := ab_bind h
      refine ab_inv0 C dX9_doors_46 mlX9_90 yvX2_clear rkC_13 ⟨_, _, rfl⟩ mmC_13 (tX2_clear l _ hq6) (Nat.le_of_ble_eq_true rfl) (Nat.le_of_ble_eq_true rfl) rfl (Nat.le_of_ble_eq_true rfl) ?_
      refine ab_aload_n C dX9_doors_49 rfl ?_
      refine ab_iconst C dX9_doors_50 (v := 0) rfl ?_
      refine ab_putI C dX9_doors_51 fpX9_26 rkC_0 rfl mmC_0 rfl rfl ?_
      refine ab_nmS (fun σ7 eσ7 => ?_)
      replace h := ab_kh eσ7 h
      refine ab_iload_n C dX9_doors_54 rfl ?_
      obtain rfl := Option.some.inj h
      exact ab_iret C dX9_doors_55
    · replace h := ab_neg hc2 h
      refine ab_weak (lv' := [none, none, none]) ⟨.inl rfl, ⟨.inl rfl, ⟨.inl rfl, trivial⟩⟩⟩ ?_
      exact gX9_doors_b10 C _ h
end
def fX9_drawn_b25 (σ : ab_S) : Option (Int32 × ab_S) := some ((-1), σ)
def fX9_drawn_b47 (σ : ab_S) : Option (Int32 × ab_S) := some ((-1), σ)
def fX9_drawn_b118 (kk87 : Int32 → Int32 → Int32 → Int32 → Int32 → ab_S → Option (Int32 × ab_S)) (v4 : Int32) (v5 : Int32) (v6 : Int32) (v7 : Int32) (v8 : Int32) (σ : ab_S) : Option (Int32 × ab_S) := kk87 v4 v5 v6 v7 (v8 + 1) σ
def fX9_drawn_b87_o (kk87 : Int32 → Int32 → Int32 → Int32 → Int32 → ab_S → Option (Int32 × ab_S)) (v4 : Int32) (v5 : Int32) (v6 : Int32) (v7 : Int32) (v8 : Int32) (σ : ab_S) : Option (Int32 × ab_S) := (if v4 ≤ v8 then some (v7, σ) else (fX3_endOfOne v5 (σ.1 5 0 4) σ).bind fun q2 => (if q2.1 = v6 then fX9_drawn_b118 kk87 v4 v5 v6 (v7 + 1) v8 q2.2 else fX9_drawn_b118 kk87 v4 v5 v6 v7 v8 q2.2))
def fX9_drawn_b87 : Nat → Int32 → Int32 → Int32 → Int32 → Int32 → ab_S → Option (Int32 × ab_S)
  | 0 => fun _ _ _ _ _ _ => none
  | n + 1 => fX9_drawn_b87_o  (fX9_drawn_b87 n)
def fX9_drawn_b71 (v1 : Int32) (v4 : Int32) (v5 : Int32) (t0 : Int32) (σ : ab_S) : Option (Int32 × ab_S) := (fX3_begin v1 σ).bind fun q1 => fX9_drawn_b87 ab_N v4 v5 t0 0 0 q1
def fX9_drawn (x1 : Int32) (x2 : Int32) (x3 : Int32) (σ : ab_S) : Option (Int32 × ab_S) := (if (x2 / 10) < 1 then fX9_drawn_b25 σ else (if (x2 / 10) ≤ 50 then (if (ab_mod x2 10) < 0 then fX9_drawn_b47 σ else (if 2 < (ab_mod x2 10) then fX9_drawn_b47 σ else (if x3 < 0 then fX9_drawn_b47 σ else (if x3 ≤ 1 then (fX7_together σ).bind fun q7 => (if q7 = 0 then some ((-5), σ) else (if x3 = 0 then fX9_drawn_b71 x1 (x2 / 10) (ab_mod x2 10) 1 σ else fX9_drawn_b71 x1 (x2 / 10) (ab_mod x2 10) 2 σ)) else fX9_drawn_b47 σ)))) else fX9_drawn_b25 σ))
section
variable {p : Program} {l : Launch} {e : Env} {s : State} {m : MethodId} {args : Array Value} {below : List Frame} {meth : Method} {c : Code} {D : va_G} {cA : Nat → ClassId} {ad : Nat → Nat → Nat}
set_option maxRecDepth 100000 in
set_option maxHeartbeats 4000000 in
theorem gX9_drawn_b25 {R : (Int32 × ab_S)} (C : ab_C yC p s m args meth c D cA ad cX9_drawn 9 RX9 (some .int)) (σ : ab_S) (h : fX9_drawn_b25 σ = some R) : ab_G yC p l e s m args below meth c D cA ad 9 6 (some (.inl R.1)) R.2 25 [none, none, none, none, none, none, none, none, none] [] σ := by
  refine ab_iconst C dX9_drawn_25 (v := (-1)) rfl ?_
  obtain rfl := Option.some.inj h
  exact ab_iret C dX9_drawn_26
set_option maxRecDepth 100000 in
set_option maxHeartbeats 4000000 in
theorem gX9_drawn_b47 {R : (Int32 × ab_S)} (C : ab_C yC p s m args meth c D cA ad cX9_drawn 9 RX9 (some .int)) (σ : ab_S) (h : fX9_drawn_b47 σ = some R) : ab_G yC p l e s m args below meth c D cA ad 9 6 (some (.inl R.1)) R.2 47 [none, none, none, none, none, none, none, none, none] [] σ := by
  refine ab_iconst C dX9_drawn_47 (v := (-1)) rfl ?_
  obtain rfl := Option.some.inj h
  exact ab_iret C dX9_drawn_48
set_option maxRecDepth 100000 in
set_option maxHeartbeats 4000000 in
theorem gX9_drawn_b118 {R : (Int32 × ab_S)} (C : ab_C yC p s m args meth c D cA ad cX9_drawn 9 RX9 (some .int)) {kk87 : Int32 → Int32 → Int32 → Int32 → Int32 → ab_S → Option (Int32 × ab_S)} (hk87 : ∀ (v4 : Int32) (v5 : Int32) (v6 : Int32) (v7 : Int32) (v8 : Int32) (σ : ab_S), kk87 v4 v5 v6 v7 v8 σ = some R → ab_G yC p l e s m args below meth c D cA ad 9 6 (some (.inl R.1)) R.2 87 [some (.inr (.inr (0, 0))), none, none, none, some (.inl v4), some (.inl v5), some (.inl v6), some (.inl v7), some (.inl v8)] [] σ) (v4 : Int32) (v5 : Int32) (v6 : Int32) (v7 : Int32) (v8 : Int32) (σ : ab_S) (h : fX9_drawn_b118 kk87 v4 v5 v6 v7 v8 σ = some R) : ab_G yC p l e s m args below meth c D cA ad 9 6 (some (.inl R.1)) R.2 118 [some (.inr (.inr (0, 0))), none, none, none, some (.inl v4), some (.inl v5), some (.inl v6), some (.inl v7), some (.inl v8)] [] σ := by
  refine ab_iinc C dX9_drawn_118 rfl (v := 1) rfl (Nat.le_of_ble_eq_true rfl) ?_
  refine ab_goto C (tgt := 87) dX9_drawn_121 (by decide) ?_
  refine ab_weak (lv' := [some (.inr (.inr (0, 0))), none, none, none, some (.inl v4), some (.inl v5), some (.inl v6), some (.inl v7), some (.inl (v8 + 1))]) ⟨.inr rfl, ⟨.inl rfl, ⟨.inl rfl, ⟨.inl rfl, ⟨.inr rfl, ⟨.inr rfl, ⟨.inr rfl, ⟨.inr rfl, ⟨.inr rfl, trivial⟩⟩⟩⟩⟩⟩⟩⟩⟩ ?_
  exact hk87 _ _ _ _ _ _ h
set_option maxRecDepth 100000 in
set_option maxHeartbeats 4000000 in
theorem gX9_drawn_b87_o {R : (Int32 × ab_S)} (C : ab_C yC p s m args meth c D cA ad cX9_drawn 9 RX9 (some .int)) {kk87 : Int32 → Int32 → Int32 → Int32 → Int32 → ab_S → Option (Int32 × ab_S)} (hk87 : ∀ (v4 : Int32) (v5 : Int32) (v6 : Int32) (v7 : Int32) (v8 : Int32) (σ : ab_S), kk87 v4 v5 v6 v7 v8 σ = some R → ab_G yC p l e s m args below meth c D cA ad 9 6 (some (.inl R.1)) R.2 87 [some (.inr (.inr (0, 0))), none, none, none, some (.inl v4), some (.inl v5), some (.inl v6), some (.inl v7), some (.inl v8)] [] σ) (v4 : Int32) (v5 : Int32) (v6 : Int32) (v7 : Int32) (v8 : Int32) (σ : ab_S) (h : fX9_drawn_b87_o kk87 v4 v5 v6 v7 v8 σ = some R) : ab_G yC p l e s m args below meth c D cA ad 9 6 (some (.inl R.1)) R.2 87 [some (.inr (.inr (0, 0))), none, none, none, some (.inl v4), some (.inl v5), some (.inl v6), some (.inl v7), some (.inl v8)] [] σ := by
  refine ab_iload C dX9_drawn_87 rfl ?_
  refine ab_iload C dX9_drawn_89 rfl ?_
  refine ab_icmp_ge C (tgt := 124) dX9_drawn_91 (by decide) (fun hc1 => ?_) (fun hc1 => ?_)
  · replace h := ab_pos hc1 h
    refine ab_iload C dX9_drawn_124 rfl ?_
    obtain rfl := Option.some.inj h
    exact ab_iret C dX9_drawn_126
  · replace h := ab_neg hc1 h
    refine ab_aload_n C dX9_drawn_94 rfl ?_
    refine ab_getR C dX9_drawn_95 flX9_58 rkC_0 rfl mmC_0 ?_
    refine ab_iload C dX9_drawn_98 rfl ?_
    refine ab_aload_n C dX9_drawn_100 rfl ?_
    refine ab_getR C dX9_drawn_101 flX9_19 rkC_0 rfl mmC_0 ?_
    refine ab_getI C dX9_drawn_104 flX9_162 rkC_5 rfl mmC_5 ?_
    obtain ⟨q2, hq2, h⟩ := ab_bind h
    refine ab_inv1 C dX9_drawn_107 mlX9_286 yvX3_endOfOne rkC_35 ⟨_, _, rfl⟩ mmC_35 (tX3_endOfOne l _ _ _ hq2) (Nat.le_of_ble_eq_true rfl) (Nat.le_of_ble_eq_true rfl) rfl (Nat.le_of_ble_eq_true rfl) ?_
    refine ab_iload C dX9_drawn_110 rfl ?_
    refine ab_icmp_ne C (tgt := 118) dX9_drawn_112 (by decide) (fun hc3 => ?_) (fun hc3 => ?_)
    · replace h := ab_neg hc3 h
      refine ab_weak (lv' := [some (.inr (.inr (0, 0))), none, none, none, some (.inl v4), some (.inl v5), some (.inl v6), some (.inl v7), some (.inl v8)]) ⟨.inr rfl, ⟨.inl rfl, ⟨.inl rfl, ⟨.inl rfl, ⟨.inr rfl, ⟨.inr rfl, ⟨.inr rfl, ⟨.inr rfl, ⟨.inr rfl, trivial⟩⟩⟩⟩⟩⟩⟩⟩⟩ ?_
      exact gX9_drawn_b118 C hk87 _ _ _ _ _ _ h
    · replace h := ab_pos hc3 h
      refine ab_iinc C dX9_drawn_115 rfl (v := 1) rfl (Nat.le_of_ble_eq_true rfl) ?_
      refine ab_weak (lv' := [some (.inr (.inr (0, 0))), none, none, none, some (.inl v4), some (.inl v5), some (.inl v6), some (.inl (v7 + 1)), some (.inl v8)]) ⟨.inr rfl, ⟨.inl rfl, ⟨.inl rfl, ⟨.inl rfl, ⟨.inr rfl, ⟨.inr rfl, ⟨.inr rfl, ⟨.inr rfl, ⟨.inr rfl, trivial⟩⟩⟩⟩⟩⟩⟩⟩⟩ ?_
      exact gX9_drawn_b118 C hk87 _ _ _ _ _ _ h
theorem gX9_drawn_b87 {R : (Int32 × ab_S)} (C : ab_C yC p s m args meth c D cA ad cX9_drawn 9 RX9 (some .int)) : ∀ (j : Nat) (v4 : Int32) (v5 : Int32) (v6 : Int32) (v7 : Int32) (v8 : Int32) (σ : ab_S), fX9_drawn_b87 j v4 v5 v6 v7 v8 σ = some R → ab_G yC p l e s m args below meth c D cA ad 9 6 (some (.inl R.1)) R.2 87 [some (.inr (.inr (0, 0))), none, none, none, some (.inl v4), some (.inl v5), some (.inl v6), some (.inl v7), some (.inl v8)] [] σ := by
  intro j
  induction j with
  | zero => intro v4 v5 v6 v7 v8 σ  h; cases h
  | succ j ih => intro v4 v5 v6 v7 v8 σ  h; exact gX9_drawn_b87_o C ih _ _ _ _ _ _ h
set_option maxRecDepth 100000 in
set_option maxHeartbeats 4000000 in
theorem gX9_drawn_b71 {R : (Int32 × ab_S)} (C : ab_C yC p s m args meth c D cA ad cX9_drawn 9 RX9 (some .int)) (v1 : Int32) (v4 : Int32) (v5 : Int32) (t0 : Int32) (σ : ab_S) (h : fX9_drawn_b71 v1 v4 v5 t0 σ = some R) : ab_G yC p l e s m args below meth c D cA ad 9 6 (some (.inl R.1)) R.2 71 [some (.inr (.inr (0, 0))), some (.inl v1), none, none, some (.inl v4), some (.inl v5), none, none, none] [.inl t0] σ := by
  refine ab_istore C dX9_drawn_71 (Nat.le_of_ble_eq_true rfl) ?_
  refine ab_iconst C dX9_drawn_73 (v := 0) rfl ?_
  refine ab_istore C dX9_drawn_74 (Nat.le_of_ble_eq_true rfl) ?_
  refine ab_aload_n C dX9_drawn_76 rfl ?_
  refine ab_getR C dX9_drawn_77 flX9_58 rkC_0 rfl mmC_0 ?_
  refine ab_iload_n C dX9_drawn_80 rfl ?_
  obtain ⟨q1, hq1, h⟩ := ab_bind h
  refine ab_inv0 C dX9_drawn_81 mlX9_284 yvX3_begin rkC_35 ⟨_, _, rfl⟩ mmC_35 (tX3_begin l _ _ hq1) (Nat.le_of_ble_eq_true rfl) (Nat.le_of_ble_eq_true rfl) rfl (Nat.le_of_ble_eq_true rfl) ?_
  refine ab_iconst C dX9_drawn_84 (v := 0) rfl ?_
  refine ab_istore C dX9_drawn_85 (Nat.le_of_ble_eq_true rfl) ?_
  refine ab_weak (lv' := [some (.inr (.inr (0, 0))), some (.inl v1), none, none, some (.inl v4), some (.inl v5), some (.inl t0), some (.inl 0), some (.inl 0)]) ⟨.inr rfl, ⟨.inr rfl, ⟨.inl rfl, ⟨.inl rfl, ⟨.inr rfl, ⟨.inr rfl, ⟨.inr rfl, ⟨.inr rfl, ⟨.inr rfl, trivial⟩⟩⟩⟩⟩⟩⟩⟩⟩ ?_
  refine ab_weak (lv' := [some (.inr (.inr (0, 0))), none, none, none, some (.inl v4), some (.inl v5), some (.inl t0), some (.inl 0), some (.inl 0)]) ⟨.inr rfl, ⟨.inl rfl, ⟨.inl rfl, ⟨.inl rfl, ⟨.inr rfl, ⟨.inr rfl, ⟨.inr rfl, ⟨.inr rfl, ⟨.inr rfl, trivial⟩⟩⟩⟩⟩⟩⟩⟩⟩ ?_
  exact gX9_drawn_b87 C ab_N _ _ _ _ _ _ h
set_option maxRecDepth 100000 in
set_option maxHeartbeats 4000000 in
theorem tX9_drawn (l : Launch) (x1 : Int32) (x2 : Int32) (x3 : Int32) (σ : ab_S) {R : (Int32 × ab_S)} (h : fX9_drawn x1 x2 x3 σ = some R) : ab_M l yC yX9_drawn cX9_drawn 9 (some .int) 6 [.inr (.inr (0, 0)), .inl x1, .inl x2, .inl x3] σ (some (.inl R.1)) R.2 := by
  refine ab_M_intro ndC (by decide) (Nat.le_of_ble_eq_true rfl) ?_
  intro p e s m args below meth c D cA ad C
  have C : ab_C yC p s m args meth c D cA ad cX9_drawn 9 RX9 (some .int) := C
  refine ab_weak (lv' := [some (.inr (.inr (0, 0))), some (.inl x1), some (.inl x2), some (.inl x3), none, none, none, none, none]) ⟨.inr rfl, ⟨.inr rfl, ⟨.inr rfl, ⟨.inr rfl, ⟨.inl rfl, ⟨.inl rfl, ⟨.inl rfl, ⟨.inl rfl, ⟨.inl rfl, trivial⟩⟩⟩⟩⟩⟩⟩⟩⟩ ?_
  refine ab_iload_n C dX9_drawn_0 rfl ?_
  refine ab_bipush C dX9_drawn_1 (v := 10) rfl ?_
  refine ab_idiv C dX9_drawn_3 (by decide) ?_
  refine ab_istore C dX9_drawn_4 (Nat.le_of_ble_eq_true rfl) ?_
  refine ab_iload_n C dX9_drawn_6 rfl ?_
  refine ab_bipush C dX9_drawn_7 (v := 10) rfl ?_
  refine ab_irem C dX9_drawn_9 (by decide) ?_
  refine ab_istore C dX9_drawn_10 (Nat.le_of_ble_eq_true rfl) ?_
  refine ab_iload C dX9_drawn_12 rfl ?_
  refine ab_iconst C dX9_drawn_14 (v := 1) rfl ?_
  refine ab_icmp_lt C (tgt := 25) dX9_drawn_15 (by decide) (fun hc1 => ?_) (fun hc1 => ?_)
  · replace h := ab_pos hc1 h
    refine ab_weak (lv' := [none, none, none, none, none, none, none, none, none]) ⟨.inl rfl, ⟨.inl rfl, ⟨.inl rfl, ⟨.inl rfl, ⟨.inl rfl, ⟨.inl rfl, ⟨.inl rfl, ⟨.inl rfl, ⟨.inl rfl, trivial⟩⟩⟩⟩⟩⟩⟩⟩⟩ ?_
    exact gX9_drawn_b25 C _ h
  · replace h := ab_neg hc1 h
    refine ab_iload C dX9_drawn_18 rfl ?_
    refine ab_bipush C dX9_drawn_20 (v := 50) rfl ?_
    refine ab_icmp_le C (tgt := 27) dX9_drawn_22 (by decide) (fun hc2 => ?_) (fun hc2 => ?_)
    · replace h := ab_pos hc2 h
      refine ab_iload C dX9_drawn_27 rfl ?_
      refine ab_if_lt C (tgt := 47) dX9_drawn_29 (by decide) (fun hc3 => ?_) (fun hc3 => ?_)
      · replace h := ab_pos hc3 h
        refine ab_weak (lv' := [none, none, none, none, none, none, none, none, none]) ⟨.inl rfl, ⟨.inl rfl, ⟨.inl rfl, ⟨.inl rfl, ⟨.inl rfl, ⟨.inl rfl, ⟨.inl rfl, ⟨.inl rfl, ⟨.inl rfl, trivial⟩⟩⟩⟩⟩⟩⟩⟩⟩ ?_
        exact gX9_drawn_b47 C _ h
      · replace h := ab_neg hc3 h
        refine ab_iload C dX9_drawn_32 rfl ?_
        refine ab_iconst C dX9_drawn_34 (v := 2) rfl ?_
        refine ab_icmp_gt C (tgt := 47) dX9_drawn_35 (by decide) (fun hc4 => ?_) (fun hc4 => ?_)
        · replace h := ab_pos hc4 h
          refine ab_weak (lv' := [none, none, none, none, none, none, none, none, none]) ⟨.inl rfl, ⟨.inl rfl, ⟨.inl rfl, ⟨.inl rfl, ⟨.inl rfl, ⟨.inl rfl, ⟨.inl rfl, ⟨.inl rfl, ⟨.inl rfl, trivial⟩⟩⟩⟩⟩⟩⟩⟩⟩ ?_
          exact gX9_drawn_b47 C _ h
        · replace h := ab_neg hc4 h
          refine ab_iload_n C dX9_drawn_38 rfl ?_
          refine ab_if_lt C (tgt := 47) dX9_drawn_39 (by decide) (fun hc5 => ?_) (fun hc5 => ?_)
          · replace h := ab_pos hc5 h
            refine ab_weak (lv' := [none, none, none, none, none, none, none, none, none]) ⟨.inl rfl, ⟨.inl rfl, ⟨.inl rfl, ⟨.inl rfl, ⟨.inl rfl, ⟨.inl rfl, ⟨.inl rfl, ⟨.inl rfl, ⟨.inl rfl, trivial⟩⟩⟩⟩⟩⟩⟩⟩⟩ ?_
            exact gX9_drawn_b47 C _ h
          · replace h := ab_neg hc5 h
            refine ab_iload_n C dX9_drawn_42 rfl ?_
            refine ab_iconst C dX9_drawn_43 (v := 1) rfl ?_
            refine ab_icmp_le C (tgt := 49) dX9_drawn_44 (by decide) (fun hc6 => ?_) (fun hc6 => ?_)
            · replace h := ab_pos hc6 h
              refine ab_aload_n C dX9_drawn_49 rfl ?_
              refine ab_getR C dX9_drawn_50 flX9_10 rkC_0 rfl mmC_0 ?_
              obtain ⟨q7, hq7, h⟩ := ab_bind h
              refine ab_inv1 C dX9_drawn_53 mlX9_227 yvX7_together rkC_1 ⟨_, _, rfl⟩ mmC_1 (tX7_together l _ hq7) (Nat.le_of_ble_eq_true rfl) (Nat.le_of_ble_eq_true rfl) rfl (Nat.le_of_ble_eq_true rfl) ?_
              refine ab_if_ne C (tgt := 62) dX9_drawn_56 (by decide) (fun hc8 => ?_) (fun hc8 => ?_)
              · replace h := ab_neg hc8 h
                refine ab_iload_n C dX9_drawn_62 rfl ?_
                refine ab_if_ne C (tgt := 70) dX9_drawn_63 (by decide) (fun hc9 => ?_) (fun hc9 => ?_)
                · replace h := ab_neg hc9 h
                  refine ab_iconst C dX9_drawn_70 (v := 2) rfl ?_
                  refine ab_weak (lv' := [some (.inr (.inr (0, 0))), some (.inl x1), none, none, some (.inl (x2 / 10)), some (.inl (ab_mod x2 10)), none, none, none]) ⟨.inr rfl, ⟨.inr rfl, ⟨.inl rfl, ⟨.inl rfl, ⟨.inr rfl, ⟨.inr rfl, ⟨.inl rfl, ⟨.inl rfl, ⟨.inl rfl, trivial⟩⟩⟩⟩⟩⟩⟩⟩⟩ ?_
                  exact gX9_drawn_b71 C _ _ _ _ _ h
                · replace h := ab_pos hc9 h
                  refine ab_iconst C dX9_drawn_66 (v := 1) rfl ?_
                  refine ab_goto C (tgt := 71) dX9_drawn_67 (by decide) ?_
                  refine ab_weak (lv' := [some (.inr (.inr (0, 0))), some (.inl x1), none, none, some (.inl (x2 / 10)), some (.inl (ab_mod x2 10)), none, none, none]) ⟨.inr rfl, ⟨.inr rfl, ⟨.inl rfl, ⟨.inl rfl, ⟨.inr rfl, ⟨.inr rfl, ⟨.inl rfl, ⟨.inl rfl, ⟨.inl rfl, trivial⟩⟩⟩⟩⟩⟩⟩⟩⟩ ?_
                  exact gX9_drawn_b71 C _ _ _ _ _ h
              · replace h := ab_pos hc8 h
                refine ab_bipush C dX9_drawn_59 (v := (-5)) rfl ?_
                obtain rfl := Option.some.inj h
                exact ab_iret C dX9_drawn_61
            · replace h := ab_neg hc6 h
              refine ab_weak (lv' := [none, none, none, none, none, none, none, none, none]) ⟨.inl rfl, ⟨.inl rfl, ⟨.inl rfl, ⟨.inl rfl, ⟨.inl rfl, ⟨.inl rfl, ⟨.inl rfl, ⟨.inl rfl, ⟨.inl rfl, trivial⟩⟩⟩⟩⟩⟩⟩⟩⟩ ?_
              exact gX9_drawn_b47 C _ h
    · replace h := ab_neg hc2 h
      refine ab_weak (lv' := [none, none, none, none, none, none, none, none, none]) ⟨.inl rfl, ⟨.inl rfl, ⟨.inl rfl, ⟨.inl rfl, ⟨.inl rfl, ⟨.inl rfl, ⟨.inl rfl, ⟨.inl rfl, ⟨.inl rfl, trivial⟩⟩⟩⟩⟩⟩⟩⟩⟩ ?_
      exact gX9_drawn_b25 C _ h
end
def fX9_rowRefusal_b60 (t0 : Int32) (σ : ab_S) : Option Int32 := some t0
def fX9_rowRefusal (x1 : Int32) (x2 : Int32) (σ : ab_S) : Option Int32 := (fX6_has x1).bind fun q1 => (if q1 = 0 then some ((-1)) else (fX6_isEmpty x1 σ).bind fun q3 => (if q3 = 0 then (fX6_isRow x1 σ).bind fun q5 => (if q5 = 0 then some ((-12)) else (fX6_hasPlaces x1 x2 1 σ).bind fun q7 => (if q7 = 0 then fX9_rowRefusal_b60 ((-13)) σ else fX9_rowRefusal_b60 0 σ)) else some ((-11))))
section
variable {p : Program} {l : Launch} {e : Env} {s : State} {m : MethodId} {args : Array Value} {below : List Frame} {meth : Method} {c : Code} {D : va_G} {cA : Nat → ClassId} {ad : Nat → Nat → Nat}
set_option maxRecDepth 100000 in
set_option maxHeartbeats 4000000 in
theorem gX9_rowRefusal_b60 {R : Int32} (C : ab_C yC p s m args meth c D cA ad cX9_rowRefusal 3 RX9 (some .int)) (σ : ab_S) (t0 : Int32) (h : fX9_rowRefusal_b60 t0 σ = some R) : ab_G yC p l e s m args below meth c D cA ad 3 4 (some (.inl R)) σ 60 [none, none, none] [.inl t0] σ := by
  obtain rfl := Option.some.inj h
  exact ab_iret C dX9_rowRefusal_60
set_option maxRecDepth 100000 in
set_option maxHeartbeats 4000000 in
theorem tX9_rowRefusal (l : Launch) (x1 : Int32) (x2 : Int32) (σ : ab_S) {R : Int32} (h : fX9_rowRefusal x1 x2 σ = some R) : ab_M l yC yX9_rowRefusal cX9_rowRefusal 3 (some .int) 4 [.inr (.inr (0, 0)), .inl x1, .inl x2] σ (some (.inl R)) σ := by
  refine ab_M_intro ndC (by decide) (Nat.le_of_ble_eq_true rfl) ?_
  intro p e s m args below meth c D cA ad C
  have C : ab_C yC p s m args meth c D cA ad cX9_rowRefusal 3 RX9 (some .int) := C
  refine ab_weak (lv' := [some (.inr (.inr (0, 0))), some (.inl x1), some (.inl x2)]) ⟨.inr rfl, ⟨.inr rfl, ⟨.inr rfl, trivial⟩⟩⟩ ?_
  refine ab_aload_n C dX9_rowRefusal_0 rfl ?_
  refine ab_getR C dX9_rowRefusal_1 flX9_72 rkC_0 rfl mmC_0 ?_
  refine ab_iload_n C dX9_rowRefusal_4 rfl ?_
  obtain ⟨q1, hq1, h⟩ := ab_bind h
  refine ab_inv1 C dX9_rowRefusal_5 mlX9_93 yvX6_has rkC_39 ⟨_, _, rfl⟩ mmC_39 (tX6_has l _ _ hq1) (Nat.le_of_ble_eq_true rfl) (Nat.le_of_ble_eq_true rfl) rfl (Nat.le_of_ble_eq_true rfl) ?_
  refine ab_if_ne C (tgt := 13) dX9_rowRefusal_8 (by decide) (fun hc2 => ?_) (fun hc2 => ?_)
  · replace h := ab_neg hc2 h
    refine ab_aload_n C dX9_rowRefusal_13 rfl ?_
    refine ab_getR C dX9_rowRefusal_14 flX9_72 rkC_0 rfl mmC_0 ?_
    refine ab_iload_n C dX9_rowRefusal_17 rfl ?_
    obtain ⟨q3, hq3, h⟩ := ab_bind h
    refine ab_inv1 C dX9_rowRefusal_18 mlX9_97 yvX6_isEmpty rkC_39 ⟨_, _, rfl⟩ mmC_39 (tX6_isEmpty l _ _ hq3) (Nat.le_of_ble_eq_true rfl) (Nat.le_of_ble_eq_true rfl) rfl (Nat.le_of_ble_eq_true rfl) ?_
    refine ab_if_eq C (tgt := 27) dX9_rowRefusal_21 (by decide) (fun hc4 => ?_) (fun hc4 => ?_)
    · replace h := ab_pos hc4 h
      refine ab_aload_n C dX9_rowRefusal_27 rfl ?_
      refine ab_getR C dX9_rowRefusal_28 flX9_72 rkC_0 rfl mmC_0 ?_
      refine ab_iload_n C dX9_rowRefusal_31 rfl ?_
      obtain ⟨q5, hq5, h⟩ := ab_bind h
      refine ab_inv1 C dX9_rowRefusal_32 mlX9_347 yvX6_isRow rkC_39 ⟨_, _, rfl⟩ mmC_39 (tX6_isRow l _ _ hq5) (Nat.le_of_ble_eq_true rfl) (Nat.le_of_ble_eq_true rfl) rfl (Nat.le_of_ble_eq_true rfl) ?_
      refine ab_if_ne C (tgt := 41) dX9_rowRefusal_35 (by decide) (fun hc6 => ?_) (fun hc6 => ?_)
      · replace h := ab_neg hc6 h
        refine ab_aload_n C dX9_rowRefusal_41 rfl ?_
        refine ab_getR C dX9_rowRefusal_42 flX9_72 rkC_0 rfl mmC_0 ?_
        refine ab_iload_n C dX9_rowRefusal_45 rfl ?_
        refine ab_iload_n C dX9_rowRefusal_46 rfl ?_
        refine ab_iconst C dX9_rowRefusal_47 (v := 1) rfl ?_
        obtain ⟨q7, hq7, h⟩ := ab_bind h
        refine ab_inv1 C dX9_rowRefusal_48 mlX9_104 yvX6_hasPlaces rkC_39 ⟨_, _, rfl⟩ mmC_39 (tX6_hasPlaces l _ _ _ _ hq7) (Nat.le_of_ble_eq_true rfl) (Nat.le_of_ble_eq_true rfl) rfl (Nat.le_of_ble_eq_true rfl) ?_
        refine ab_if_eq C (tgt := 58) dX9_rowRefusal_51 (by decide) (fun hc8 => ?_) (fun hc8 => ?_)
        · replace h := ab_pos hc8 h
          refine ab_bipush C dX9_rowRefusal_58 (v := (-13)) rfl ?_
          refine ab_weak (lv' := [none, none, none]) ⟨.inl rfl, ⟨.inl rfl, ⟨.inl rfl, trivial⟩⟩⟩ ?_
          exact gX9_rowRefusal_b60 C _ _ h
        · replace h := ab_neg hc8 h
          refine ab_iconst C dX9_rowRefusal_54 (v := 0) rfl ?_
          refine ab_goto C (tgt := 60) dX9_rowRefusal_55 (by decide) ?_
          refine ab_weak (lv' := [none, none, none]) ⟨.inl rfl, ⟨.inl rfl, ⟨.inl rfl, trivial⟩⟩⟩ ?_
          exact gX9_rowRefusal_b60 C _ _ h
      · replace h := ab_pos hc6 h
        refine ab_bipush C dX9_rowRefusal_38 (v := (-12)) rfl ?_
        obtain rfl := Option.some.inj h
        exact ab_iret C dX9_rowRefusal_40
    · replace h := ab_neg hc4 h
      refine ab_bipush C dX9_rowRefusal_24 (v := (-11)) rfl ?_
      obtain rfl := Option.some.inj h
      exact ab_iret C dX9_rowRefusal_26
  · replace h := ab_pos hc2 h
    refine ab_iconst C dX9_rowRefusal_11 (v := (-1)) rfl ?_
    obtain rfl := Option.some.inj h
    exact ab_iret C dX9_rowRefusal_12
end
def fX9_element_b24 (t0 : Int64) (σ : ab_S) : Option Int64 := some t0
def fX9_element (x1 : Int32) (x2 : Int32) (σ : ab_S) : Option Int64 := (fX9_rowRefusal x1 x2 σ).bind fun q1 => (if q1 = 0 then (fX6_at x1 x2 σ).bind fun q3 => fX9_element_b24 q3 σ else fX9_element_b24 ((-9223372036854775808)) σ)
section
variable {p : Program} {l : Launch} {e : Env} {s : State} {m : MethodId} {args : Array Value} {below : List Frame} {meth : Method} {c : Code} {D : va_G} {cA : Nat → ClassId} {ad : Nat → Nat → Nat}
set_option maxRecDepth 100000 in
set_option maxHeartbeats 4000000 in
theorem gX9_element_b24 {R : Int64} (C : ab_C yC p s m args meth c D cA ad cX9_element 3 RX9 (some .long)) (σ : ab_S) (t0 : Int64) (h : fX9_element_b24 t0 σ = some R) : ab_G yC p l e s m args below meth c D cA ad 3 5 (some (.inr (.inl R))) σ 24 [none, none, none] [.inr (.inl t0)] σ := by
  obtain rfl := Option.some.inj h
  exact ab_lret C dX9_element_24
set_option maxRecDepth 100000 in
set_option maxHeartbeats 4000000 in
theorem tX9_element (l : Launch) (x1 : Int32) (x2 : Int32) (σ : ab_S) {R : Int64} (h : fX9_element x1 x2 σ = some R) : ab_M l yC yX9_element cX9_element 3 (some .long) 5 [.inr (.inr (0, 0)), .inl x1, .inl x2] σ (some (.inr (.inl R))) σ := by
  refine ab_M_intro ndC (by decide) (Nat.le_of_ble_eq_true rfl) ?_
  intro p e s m args below meth c D cA ad C
  have C : ab_C yC p s m args meth c D cA ad cX9_element 3 RX9 (some .long) := C
  refine ab_weak (lv' := [some (.inr (.inr (0, 0))), some (.inl x1), some (.inl x2)]) ⟨.inr rfl, ⟨.inr rfl, ⟨.inr rfl, trivial⟩⟩⟩ ?_
  refine ab_aload_n C dX9_element_0 rfl ?_
  refine ab_iload_n C dX9_element_1 rfl ?_
  refine ab_iload_n C dX9_element_2 rfl ?_
  obtain ⟨q1, hq1, h⟩ := ab_bind h
  refine ab_inv1 C dX9_element_3 mlX9_340 yvX9_rowRefusal rkC_0 ⟨_, _, rfl⟩ mmC_0 (tX9_rowRefusal l _ _ _ hq1) (Nat.le_of_ble_eq_true rfl) (Nat.le_of_ble_eq_true rfl) rfl (Nat.le_of_ble_eq_true rfl) ?_
  refine ab_if_eq C (tgt := 15) dX9_element_6 (by decide) (fun hc2 => ?_) (fun hc2 => ?_)
  · replace h := ab_pos hc2 h
    refine ab_aload_n C dX9_element_15 rfl ?_
    refine ab_getR C dX9_element_16 flX9_72 rkC_0 rfl mmC_0 ?_
    refine ab_iload_n C dX9_element_19 rfl ?_
    refine ab_iload_n C dX9_element_20 rfl ?_
    obtain ⟨q3, hq3, h⟩ := ab_bind h
    refine ab_inv1 C dX9_element_21 mlX9_108 yvX6_at rkC_39 ⟨_, _, rfl⟩ mmC_39 (tX6_at l _ _ _ hq3) (Nat.le_of_ble_eq_true rfl) (Nat.le_of_ble_eq_true rfl) rfl (Nat.le_of_ble_eq_true rfl) ?_
    refine ab_weak (lv' := [none, none, none]) ⟨.inl rfl, ⟨.inl rfl, ⟨.inl rfl, trivial⟩⟩⟩ ?_
    exact gX9_element_b24 C _ _ h
  · replace h := ab_neg hc2 h
    refine ab_ldc2 C dX9_element_9 cwX9_199 ?_
    refine ab_goto C (tgt := 24) dX9_element_12 (by decide) ?_
    refine ab_weak (lv' := [none, none, none]) ⟨.inl rfl, ⟨.inl rfl, ⟨.inl rfl, trivial⟩⟩⟩ ?_
    exact gX9_element_b24 C _ _ h
end
def fX9_feed_b11 (σ : ab_S) : Option (Int32 × ab_S) := some ((-1), σ)
def fX9_feed (x1 : Int32) (σ : ab_S) : Option (Int32 × ab_S) := (if x1 < 0 then fX9_feed_b11 σ else (if x1 ≤ 255 then (fX8_isFull σ).bind fun q3 => (if q3 = 0 then (fX8_append x1 σ).bind fun q5 => some (q5.1, q5.2) else some ((-3), σ)) else fX9_feed_b11 σ))
section
variable {p : Program} {l : Launch} {e : Env} {s : State} {m : MethodId} {args : Array Value} {below : List Frame} {meth : Method} {c : Code} {D : va_G} {cA : Nat → ClassId} {ad : Nat → Nat → Nat}
set_option maxRecDepth 100000 in
set_option maxHeartbeats 4000000 in
theorem gX9_feed_b11 {R : (Int32 × ab_S)} (C : ab_C yC p s m args meth c D cA ad cX9_feed 2 RX9 (some .int)) (σ : ab_S) (h : fX9_feed_b11 σ = some R) : ab_G yC p l e s m args below meth c D cA ad 2 2 (some (.inl R.1)) R.2 11 [none, none] [] σ := by
  refine ab_iconst C dX9_feed_11 (v := (-1)) rfl ?_
  obtain rfl := Option.some.inj h
  exact ab_iret C dX9_feed_12
set_option maxRecDepth 100000 in
set_option maxHeartbeats 4000000 in
theorem tX9_feed (l : Launch) (x1 : Int32) (σ : ab_S) {R : (Int32 × ab_S)} (h : fX9_feed x1 σ = some R) : ab_M l yC yX9_feed cX9_feed 2 (some .int) 2 [.inr (.inr (0, 0)), .inl x1] σ (some (.inl R.1)) R.2 := by
  refine ab_M_intro ndC (by decide) (Nat.le_of_ble_eq_true rfl) ?_
  intro p e s m args below meth c D cA ad C
  have C : ab_C yC p s m args meth c D cA ad cX9_feed 2 RX9 (some .int) := C
  refine ab_weak (lv' := [some (.inr (.inr (0, 0))), some (.inl x1)]) ⟨.inr rfl, ⟨.inr rfl, trivial⟩⟩ ?_
  refine ab_iload_n C dX9_feed_0 rfl ?_
  refine ab_if_lt C (tgt := 11) dX9_feed_1 (by decide) (fun hc1 => ?_) (fun hc1 => ?_)
  · replace h := ab_pos hc1 h
    refine ab_weak (lv' := [none, none]) ⟨.inl rfl, ⟨.inl rfl, trivial⟩⟩ ?_
    exact gX9_feed_b11 C _ h
  · replace h := ab_neg hc1 h
    refine ab_iload_n C dX9_feed_4 rfl ?_
    refine ab_sipush C dX9_feed_5 (v := 255) rfl ?_
    refine ab_icmp_le C (tgt := 13) dX9_feed_8 (by decide) (fun hc2 => ?_) (fun hc2 => ?_)
    · replace h := ab_pos hc2 h
      refine ab_aload_n C dX9_feed_13 rfl ?_
      refine ab_getR C dX9_feed_14 flX9_40 rkC_0 rfl mmC_0 ?_
      obtain ⟨q3, hq3, h⟩ := ab_bind h
      refine ab_inv1 C dX9_feed_17 mlX9_165 yvX8_isFull rkC_18 ⟨_, _, rfl⟩ mmC_18 (tX8_isFull l _ hq3) (Nat.le_of_ble_eq_true rfl) (Nat.le_of_ble_eq_true rfl) rfl (Nat.le_of_ble_eq_true rfl) ?_
      refine ab_if_eq C (tgt := 26) dX9_feed_20 (by decide) (fun hc4 => ?_) (fun hc4 => ?_)
      · replace h := ab_pos hc4 h
        refine ab_aload_n C dX9_feed_26 rfl ?_
        refine ab_getR C dX9_feed_27 flX9_40 rkC_0 rfl mmC_0 ?_
        refine ab_iload_n C dX9_feed_30 rfl ?_
        obtain ⟨q5, hq5, h⟩ := ab_bind h
        refine ab_inv1 C dX9_feed_31 mlX9_169 yvX8_append rkC_18 ⟨_, _, rfl⟩ mmC_18 (tX8_append l _ _ hq5) (Nat.le_of_ble_eq_true rfl) (Nat.le_of_ble_eq_true rfl) rfl (Nat.le_of_ble_eq_true rfl) ?_
        obtain rfl := Option.some.inj h
        exact ab_iret C dX9_feed_34
      · replace h := ab_neg hc4 h
        refine ab_bipush C dX9_feed_23 (v := (-3)) rfl ?_
        obtain rfl := Option.some.inj h
        exact ab_iret C dX9_feed_25
    · replace h := ab_neg hc2 h
      refine ab_weak (lv' := [none, none]) ⟨.inl rfl, ⟨.inl rfl, trivial⟩⟩ ?_
      exact gX9_feed_b11 C _ h
end
def fX9_isPart_b14 (t0 : Int32) : Option Int32 := (if ab_isb t0 = true then some t0 else none)
def fX9_isPart_b9 : Option Int32 := fX9_isPart_b14 1
def fX9_isPart (x0 : Int32) : Option Int32 := (if x0 = 0 then fX9_isPart_b9 else (if x0 = 1 then fX9_isPart_b9 else fX9_isPart_b14 0))
section
variable {p : Program} {l : Launch} {e : Env} {s : State} {m : MethodId} {args : Array Value} {below : List Frame} {meth : Method} {c : Code} {D : va_G} {cA : Nat → ClassId} {ad : Nat → Nat → Nat}
set_option maxRecDepth 100000 in
set_option maxHeartbeats 4000000 in
theorem gX9_isPart_b14 {R : Int32} (C : ab_C yC p s m args meth c D cA ad cX9_isPart 1 RX9 (some .boolean)) {σ : ab_S} (t0 : Int32) (h : fX9_isPart_b14 t0 = some R) : ab_G yC p l e s m args below meth c D cA ad 1 0 (some (.inl R)) σ 14 [none] [.inl t0] σ := by
  obtain ⟨hg1, h⟩ := ab_grd h
  obtain rfl := Option.some.inj h
  exact ab_zret C dX9_isPart_14 hg1
set_option maxRecDepth 100000 in
set_option maxHeartbeats 4000000 in
theorem gX9_isPart_b9 {R : Int32} (C : ab_C yC p s m args meth c D cA ad cX9_isPart 1 RX9 (some .boolean)) {σ : ab_S} (h : fX9_isPart_b9 = some R) : ab_G yC p l e s m args below meth c D cA ad 1 0 (some (.inl R)) σ 9 [none] [] σ := by
  refine ab_iconst C dX9_isPart_9 (v := 1) rfl ?_
  refine ab_goto C (tgt := 14) dX9_isPart_10 (by decide) ?_
  refine ab_weak (lv' := [none]) ⟨.inl rfl, trivial⟩ ?_
  exact gX9_isPart_b14 C _ h
set_option maxRecDepth 100000 in
set_option maxHeartbeats 4000000 in
theorem tX9_isPart (l : Launch) (x0 : Int32) (σ : ab_S) {R : Int32} (h : fX9_isPart x0 = some R) : ab_M l yC yX9_isPart cX9_isPart 1 (some .boolean) 0 [.inl x0] σ (some (.inl R)) σ := by
  refine ab_M_intro ndC (by decide) (Nat.le_of_ble_eq_true rfl) ?_
  intro p e s m args below meth c D cA ad C
  have C : ab_C yC p s m args meth c D cA ad cX9_isPart 1 RX9 (some .boolean) := C
  refine ab_weak (lv' := [some (.inl x0)]) ⟨.inr rfl, trivial⟩ ?_
  refine ab_iload_n C dX9_isPart_0 rfl ?_
  refine ab_if_eq C (tgt := 9) dX9_isPart_1 (by decide) (fun hc1 => ?_) (fun hc1 => ?_)
  · replace h := ab_pos hc1 h
    refine ab_weak (lv' := [none]) ⟨.inl rfl, trivial⟩ ?_
    exact gX9_isPart_b9 C h
  · replace h := ab_neg hc1 h
    refine ab_iload_n C dX9_isPart_4 rfl ?_
    refine ab_iconst C dX9_isPart_5 (v := 1) rfl ?_
    refine ab_icmp_ne C (tgt := 13) dX9_isPart_6 (by decide) (fun hc2 => ?_) (fun hc2 => ?_)
    · replace h := ab_neg hc2 h
      refine ab_iconst C dX9_isPart_13 (v := 0) rfl ?_
      refine ab_weak (lv' := [none]) ⟨.inl rfl, trivial⟩ ?_
      exact gX9_isPart_b14 C _ h
    · replace h := ab_pos hc2 h
      refine ab_weak (lv' := [none]) ⟨.inl rfl, trivial⟩ ?_
      exact gX9_isPart_b9 C h
end
def fX9_lowest_b70 (t0 : Int64) : Option Int64 := some t0
def fX9_lowest_b45 (v0 : Int64) (v2 : Int64) (v4 : Int32) (v5 : Int64) : Option Int64 := (if (lg_cmp v5 0) = 0 then some 0 else (if v4 = 0 then (if v5 = 0 then none else fX9_lowest_b70 (v0 / v5)) else (if v5 = 0 then none else fX9_lowest_b70 (v2 / v5))))
def fX9_lowest_b9_o (kk9 : Int64 → Int64 → Int32 → Int64 → Int64 → Int32 → Option Int64) (v0 : Int64) (v2 : Int64) (v4 : Int32) (v5 : Int64) (v7 : Int64) (v9 : Int32) : Option Int64 := (if 200 ≤ v9 then fX9_lowest_b45 v0 v2 v4 v5 else (if (lg_cmp v7 0) = 0 then fX9_lowest_b45 v0 v2 v4 v5 else (if v7 = 0 then none else kk9 v0 v2 v4 v7 (ab_lmod v5 v7) (v9 + 1))))
def fX9_lowest_b9 : Nat → Int64 → Int64 → Int32 → Int64 → Int64 → Int32 → Option Int64
  | 0 => fun _ _ _ _ _ _ => none
  | n + 1 => fX9_lowest_b9_o  (fX9_lowest_b9 n)
def fX9_lowest (x0 : Int64) (x2 : Int64) (x4 : Int32) : Option Int64 := fX9_lowest_b9 ab_N x0 x2 x4 x2 x0 0
section
variable {p : Program} {l : Launch} {e : Env} {s : State} {m : MethodId} {args : Array Value} {below : List Frame} {meth : Method} {c : Code} {D : va_G} {cA : Nat → ClassId} {ad : Nat → Nat → Nat}
set_option maxRecDepth 100000 in
set_option maxHeartbeats 4000000 in
theorem gX9_lowest_b70 {R : Int64} (C : ab_C yC p s m args meth c D cA ad cX9_lowest 12 RX9 (some .long)) {σ : ab_S} (t0 : Int64) (h : fX9_lowest_b70 t0 = some R) : ab_G yC p l e s m args below meth c D cA ad 12 0 (some (.inr (.inl R))) σ 70 [none, none, none, none, none, none, none, none, none, none, none, none] [.inr (.inl t0)] σ := by
  obtain rfl := Option.some.inj h
  exact ab_lret C dX9_lowest_70
set_option maxRecDepth 100000 in
set_option maxHeartbeats 4000000 in
theorem gX9_lowest_b45 {R : Int64} (C : ab_C yC p s m args meth c D cA ad cX9_lowest 12 RX9 (some .long)) {σ : ab_S} (v0 : Int64) (v2 : Int64) (v4 : Int32) (v5 : Int64) (h : fX9_lowest_b45 v0 v2 v4 v5 = some R) : ab_G yC p l e s m args below meth c D cA ad 12 0 (some (.inr (.inl R))) σ 45 [some (.inr (.inl v0)), none, some (.inr (.inl v2)), none, some (.inl v4), some (.inr (.inl v5)), none, none, none, none, none, none] [] σ := by
  refine ab_lload C dX9_lowest_45 rfl ?_
  refine ab_lconst C dX9_lowest_47 (v := 0) rfl ?_
  refine ab_lcmp C dX9_lowest_48  ?_
  refine ab_if_ne C (tgt := 54) dX9_lowest_49 (by decide) (fun hc1 => ?_) (fun hc1 => ?_)
  · replace h := ab_neg hc1 h
    refine ab_iload C dX9_lowest_54 rfl ?_
    refine ab_if_ne C (tgt := 66) dX9_lowest_56 (by decide) (fun hc2 => ?_) (fun hc2 => ?_)
    · replace h := ab_neg hc2 h
      refine ab_lload_n C dX9_lowest_66 rfl ?_
      refine ab_lload C dX9_lowest_67 rfl ?_
      obtain ⟨hg3, h⟩ := ab_grn h
      refine ab_ldiv C dX9_lowest_69 hg3 ?_
      refine ab_weak (lv' := [none, none, none, none, none, none, none, none, none, none, none, none]) ⟨.inl rfl, ⟨.inl rfl, ⟨.inl rfl, ⟨.inl rfl, ⟨.inl rfl, ⟨.inl rfl, ⟨.inl rfl, ⟨.inl rfl, ⟨.inl rfl, ⟨.inl rfl, ⟨.inl rfl, ⟨.inl rfl, trivial⟩⟩⟩⟩⟩⟩⟩⟩⟩⟩⟩⟩ ?_
      exact gX9_lowest_b70 C _ h
    · replace h := ab_pos hc2 h
      refine ab_lload_n C dX9_lowest_59 rfl ?_
      refine ab_lload C dX9_lowest_60 rfl ?_
      obtain ⟨hg4, h⟩ := ab_grn h
      refine ab_ldiv C dX9_lowest_62 hg4 ?_
      refine ab_goto C (tgt := 70) dX9_lowest_63 (by decide) ?_
      refine ab_weak (lv' := [none, none, none, none, none, none, none, none, none, none, none, none]) ⟨.inl rfl, ⟨.inl rfl, ⟨.inl rfl, ⟨.inl rfl, ⟨.inl rfl, ⟨.inl rfl, ⟨.inl rfl, ⟨.inl rfl, ⟨.inl rfl, ⟨.inl rfl, ⟨.inl rfl, ⟨.inl rfl, trivial⟩⟩⟩⟩⟩⟩⟩⟩⟩⟩⟩⟩ ?_
      exact gX9_lowest_b70 C _ h
  · replace h := ab_pos hc1 h
    refine ab_lconst C dX9_lowest_52 (v := 0) rfl ?_
    obtain rfl := Option.some.inj h
    exact ab_lret C dX9_lowest_53
set_option maxRecDepth 100000 in
set_option maxHeartbeats 4000000 in
theorem gX9_lowest_b9_o {R : Int64} (C : ab_C yC p s m args meth c D cA ad cX9_lowest 12 RX9 (some .long)) {σ : ab_S} {kk9 : Int64 → Int64 → Int32 → Int64 → Int64 → Int32 → Option Int64} (hk9 : ∀ (v0 : Int64) (v2 : Int64) (v4 : Int32) (v5 : Int64) (v7 : Int64) (v9 : Int32), kk9 v0 v2 v4 v5 v7 v9 = some R → ab_G yC p l e s m args below meth c D cA ad 12 0 (some (.inr (.inl R))) σ 9 [some (.inr (.inl v0)), none, some (.inr (.inl v2)), none, some (.inl v4), some (.inr (.inl v5)), none, some (.inr (.inl v7)), none, some (.inl v9), none, none] [] σ) (v0 : Int64) (v2 : Int64) (v4 : Int32) (v5 : Int64) (v7 : Int64) (v9 : Int32) (h : fX9_lowest_b9_o kk9 v0 v2 v4 v5 v7 v9 = some R) : ab_G yC p l e s m args below meth c D cA ad 12 0 (some (.inr (.inl R))) σ 9 [some (.inr (.inl v0)), none, some (.inr (.inl v2)), none, some (.inl v4), some (.inr (.inl v5)), none, some (.inr (.inl v7)), none, some (.inl v9), none, none] [] σ := by
  refine ab_iload C dX9_lowest_9 rfl ?_
  refine ab_sipush C dX9_lowest_11 (v := 200) rfl ?_
  refine ab_icmp_ge C (tgt := 45) dX9_lowest_14 (by decide) (fun hc1 => ?_) (fun hc1 => ?_)
  · replace h := ab_pos hc1 h
    refine ab_weak (lv' := [some (.inr (.inl v0)), none, some (.inr (.inl v2)), none, some (.inl v4), some (.inr (.inl v5)), none, none, none, none, none, none]) ⟨.inr rfl, ⟨.inl rfl, ⟨.inr rfl, ⟨.inl rfl, ⟨.inr rfl, ⟨.inr rfl, ⟨.inl rfl, ⟨.inl rfl, ⟨.inl rfl, ⟨.inl rfl, ⟨.inl rfl, ⟨.inl rfl, trivial⟩⟩⟩⟩⟩⟩⟩⟩⟩⟩⟩⟩ ?_
    exact gX9_lowest_b45 C _ _ _ _ h
  · replace h := ab_neg hc1 h
    refine ab_lload C dX9_lowest_17 rfl ?_
    refine ab_lconst C dX9_lowest_19 (v := 0) rfl ?_
    refine ab_lcmp C dX9_lowest_20  ?_
    refine ab_if_eq C (tgt := 45) dX9_lowest_21 (by decide) (fun hc2 => ?_) (fun hc2 => ?_)
    · replace h := ab_pos hc2 h
      refine ab_weak (lv' := [some (.inr (.inl v0)), none, some (.inr (.inl v2)), none, some (.inl v4), some (.inr (.inl v5)), none, none, none, none, none, none]) ⟨.inr rfl, ⟨.inl rfl, ⟨.inr rfl, ⟨.inl rfl, ⟨.inr rfl, ⟨.inr rfl, ⟨.inl rfl, ⟨.inl rfl, ⟨.inl rfl, ⟨.inl rfl, ⟨.inl rfl, ⟨.inl rfl, trivial⟩⟩⟩⟩⟩⟩⟩⟩⟩⟩⟩⟩ ?_
      exact gX9_lowest_b45 C _ _ _ _ h
    · replace h := ab_neg hc2 h
      refine ab_lload C dX9_lowest_24 rfl ?_
      refine ab_lload C dX9_lowest_26 rfl ?_
      obtain ⟨hg3, h⟩ := ab_grn h
      refine ab_lrem C dX9_lowest_28 hg3 ?_
      refine ab_lstore C dX9_lowest_29 (Nat.le_of_ble_eq_true rfl) ?_
      refine ab_lload C dX9_lowest_31 rfl ?_
      refine ab_lstore C dX9_lowest_33 (Nat.le_of_ble_eq_true rfl) ?_
      refine ab_lload C dX9_lowest_35 rfl ?_
      refine ab_lstore C dX9_lowest_37 (Nat.le_of_ble_eq_true rfl) ?_
      refine ab_weak (lv' := [some (.inr (.inl v0)), none, some (.inr (.inl v2)), none, some (.inl v4), some (.inr (.inl v7)), none, some (.inr (.inl (ab_lmod v5 v7))), none, some (.inl v9), some (.inr (.inl (ab_lmod v5 v7))), none]) ⟨.inr rfl, ⟨.inl rfl, ⟨.inr rfl, ⟨.inl rfl, ⟨.inr rfl, ⟨.inr rfl, ⟨.inl rfl, ⟨.inr rfl, ⟨.inl rfl, ⟨.inr rfl, ⟨.inr rfl, ⟨.inl rfl, trivial⟩⟩⟩⟩⟩⟩⟩⟩⟩⟩⟩⟩ ?_
      refine ab_iinc C dX9_lowest_39 rfl (v := 1) rfl (Nat.le_of_ble_eq_true rfl) ?_
      refine ab_goto C (tgt := 9) dX9_lowest_42 (by decide) ?_
      refine ab_weak (lv' := [some (.inr (.inl v0)), none, some (.inr (.inl v2)), none, some (.inl v4), some (.inr (.inl v7)), none, some (.inr (.inl (ab_lmod v5 v7))), none, some (.inl (v9 + 1)), none, none]) ⟨.inr rfl, ⟨.inl rfl, ⟨.inr rfl, ⟨.inl rfl, ⟨.inr rfl, ⟨.inr rfl, ⟨.inl rfl, ⟨.inr rfl, ⟨.inl rfl, ⟨.inr rfl, ⟨.inl rfl, ⟨.inl rfl, trivial⟩⟩⟩⟩⟩⟩⟩⟩⟩⟩⟩⟩ ?_
      exact hk9 _ _ _ _ _ _ h
theorem gX9_lowest_b9 {R : Int64} (C : ab_C yC p s m args meth c D cA ad cX9_lowest 12 RX9 (some .long)) {σ : ab_S} : ∀ (j : Nat) (v0 : Int64) (v2 : Int64) (v4 : Int32) (v5 : Int64) (v7 : Int64) (v9 : Int32), fX9_lowest_b9 j v0 v2 v4 v5 v7 v9 = some R → ab_G yC p l e s m args below meth c D cA ad 12 0 (some (.inr (.inl R))) σ 9 [some (.inr (.inl v0)), none, some (.inr (.inl v2)), none, some (.inl v4), some (.inr (.inl v5)), none, some (.inr (.inl v7)), none, some (.inl v9), none, none] [] σ := by
  intro j
  induction j with
  | zero => intro v0 v2 v4 v5 v7 v9  h; cases h
  | succ j ih => intro v0 v2 v4 v5 v7 v9  h; exact gX9_lowest_b9_o C ih _ _ _ _ _ _ h
set_option maxRecDepth 100000 in
set_option maxHeartbeats 4000000 in
theorem tX9_lowest (l : Launch) (x0 : Int64) (x2 : Int64) (x4 : Int32) (σ : ab_S) {R : Int64} (h : fX9_lowest x0 x2 x4 = some R) : ab_M l yC yX9_lowest cX9_lowest 12 (some .long) 0 [.inr (.inl x0), .inr (.inl x2), .inl x4] σ (some (.inr (.inl R))) σ := by
  refine ab_M_intro ndC (by decide) (Nat.le_of_ble_eq_true rfl) ?_
  intro p e s m args below meth c D cA ad C
  have C : ab_C yC p s m args meth c D cA ad cX9_lowest 12 RX9 (some .long) := C
  refine ab_weak (lv' := [some (.inr (.inl x0)), none, some (.inr (.inl x2)), none, some (.inl x4), none, none, none, none, none, none, none]) ⟨.inr rfl, ⟨.inl rfl, ⟨.inr rfl, ⟨.inl rfl, ⟨.inr rfl, ⟨.inl rfl, ⟨.inl rfl, ⟨.inl rfl, ⟨.inl rfl, ⟨.inl rfl, ⟨.inl rfl, ⟨.inl rfl, trivial⟩⟩⟩⟩⟩⟩⟩⟩⟩⟩⟩⟩ ?_
  refine ab_lload_n C dX9_lowest_0 rfl ?_
  refine ab_lstore C dX9_lowest_1 (Nat.le_of_ble_eq_true rfl) ?_
  refine ab_lload_n C dX9_lowest_3 rfl ?_
  refine ab_lstore C dX9_lowest_4 (Nat.le_of_ble_eq_true rfl) ?_
  refine ab_iconst C dX9_lowest_6 (v := 0) rfl ?_
  refine ab_istore C dX9_lowest_7 (Nat.le_of_ble_eq_true rfl) ?_
  refine ab_weak (lv' := [some (.inr (.inl x0)), none, some (.inr (.inl x2)), none, some (.inl x4), some (.inr (.inl x2)), none, some (.inr (.inl x0)), none, some (.inl 0), none, none]) ⟨.inr rfl, ⟨.inl rfl, ⟨.inr rfl, ⟨.inl rfl, ⟨.inr rfl, ⟨.inr rfl, ⟨.inl rfl, ⟨.inr rfl, ⟨.inl rfl, ⟨.inr rfl, ⟨.inl rfl, ⟨.inl rfl, trivial⟩⟩⟩⟩⟩⟩⟩⟩⟩⟩⟩⟩ ?_
  refine ab_weak (lv' := [some (.inr (.inl x0)), none, some (.inr (.inl x2)), none, some (.inl x4), some (.inr (.inl x2)), none, some (.inr (.inl x0)), none, some (.inl 0), none, none]) ⟨.inr rfl, ⟨.inl rfl, ⟨.inr rfl, ⟨.inl rfl, ⟨.inr rfl, ⟨.inr rfl, ⟨.inl rfl, ⟨.inr rfl, ⟨.inl rfl, ⟨.inr rfl, ⟨.inl rfl, ⟨.inl rfl, trivial⟩⟩⟩⟩⟩⟩⟩⟩⟩⟩⟩⟩ ?_
  exact gX9_lowest_b9 C ab_N _ _ _ _ _ _ h
end
def fX9_gain (x1 : Int32) (σ : ab_S) : Option (Int64 × ab_S) := (fX9_isPart x1).bind fun q1 => (if q1 = 0 then some ((-9223372036854775808), σ) else (fX1_weighAll σ).bind fun q3 => (if (lg_cmp q3.1 0) = 0 then some ((-2), q3.2) else (fX1_likeliest q3.2).bind fun q5 => (fX1_weighed q5 q3.2).bind fun q6 => (fX1_weighed (q3.2.1 5 0 4) q3.2).bind fun q7 => (fX9_lowest (q6 - q7) q3.1 x1).bind fun q8 => some (q8, q3.2)))
section
variable {p : Program} {l : Launch} {e : Env} {s : State} {m : MethodId} {args : Array Value} {below : List Frame} {meth : Method} {c : Code} {D : va_G} {cA : Nat → ClassId} {ad : Nat → Nat → Nat}
set_option maxRecDepth 100000 in
set_option maxHeartbeats 4000000 in
theorem tX9_gain (l : Launch) (x1 : Int32) (σ : ab_S) {R : (Int64 × ab_S)} (h : fX9_gain x1 σ = some R) : ab_M l yC yX9_gain cX9_gain 6 (some .long) 6 [.inr (.inr (0, 0)), .inl x1] σ (some (.inr (.inl R.1))) R.2 := by
  refine ab_M_intro ndC (by decide) (Nat.le_of_ble_eq_true rfl) ?_
  intro p e s m args below meth c D cA ad C
  have C : ab_C yC p s m args meth c D cA ad cX9_gain 6 RX9 (some .long) := C
  refine ab_weak (lv' := [some (.inr (.inr (0, 0))), some (.inl x1), none, none, none, none]) ⟨.inr rfl, ⟨.inr rfl, ⟨.inl rfl, ⟨.inl rfl, ⟨.inl rfl, ⟨.inl rfl, trivial⟩⟩⟩⟩⟩⟩ ?_
  refine ab_iload_n C dX9_gain_0 rfl ?_
  obtain ⟨q1, hq1, h⟩ := ab_bind h
  refine ab_invS1 C dX9_gain_1 mlX9_196 ysX9_isPart (tX9_isPart l _ _ hq1) (Nat.le_of_ble_eq_true rfl) (Nat.le_of_ble_eq_true rfl) rfl (Nat.le_of_ble_eq_true rfl) ?_
  refine ab_if_ne C (tgt := 11) dX9_gain_4 (by decide) (fun hc2 => ?_) (fun hc2 => ?_)
  · replace h := ab_neg hc2 h
    refine ab_aload_n C dX9_gain_11 rfl ?_
    refine ab_getR C dX9_gain_12 flX9_49 rkC_0 rfl mmC_0 ?_
    refine ab_aload_n C dX9_gain_15 rfl ?_
    refine ab_getR C dX9_gain_16 flX9_19 rkC_0 rfl mmC_0 ?_
    obtain ⟨q3, hq3, h⟩ := ab_bind h
    refine ab_inv1 C dX9_gain_19 mlX9_201 yvX1_weighAll rkC_21 ⟨_, _, rfl⟩ mmC_21 (tX1_weighAll l _ hq3) (Nat.le_of_ble_eq_true rfl) (Nat.le_of_ble_eq_true rfl) rfl (Nat.le_of_ble_eq_true rfl) ?_
    refine ab_lstore_n C dX9_gain_22 (Nat.le_of_ble_eq_true rfl) ?_
    refine ab_lload_n C dX9_gain_23 rfl ?_
    refine ab_lconst C dX9_gain_24 (v := 0) rfl ?_
    refine ab_lcmp C dX9_gain_25  ?_
    refine ab_if_ne C (tgt := 33) dX9_gain_26 (by decide) (fun hc4 => ?_) (fun hc4 => ?_)
    · replace h := ab_neg hc4 h
      refine ab_aload_n C dX9_gain_33 rfl ?_
      refine ab_getR C dX9_gain_34 flX9_49 rkC_0 rfl mmC_0 ?_
      refine ab_aload_n C dX9_gain_37 rfl ?_
      refine ab_getR C dX9_gain_38 flX9_49 rkC_0 rfl mmC_0 ?_
      refine ab_aload_n C dX9_gain_41 rfl ?_
      refine ab_getR C dX9_gain_42 flX9_19 rkC_0 rfl mmC_0 ?_
      obtain ⟨q5, hq5, h⟩ := ab_bind h
      refine ab_inv1 C dX9_gain_45 mlX9_215 yvX1_likeliest rkC_21 ⟨_, _, rfl⟩ mmC_21 (tX1_likeliest l _ hq5) (Nat.le_of_ble_eq_true rfl) (Nat.le_of_ble_eq_true rfl) rfl (Nat.le_of_ble_eq_true rfl) ?_
      obtain ⟨q6, hq6, h⟩ := ab_bind h
      refine ab_inv1 C dX9_gain_48 mlX9_207 yvX1_weighed rkC_21 ⟨_, _, rfl⟩ mmC_21 (tX1_weighed l _ _ hq6) (Nat.le_of_ble_eq_true rfl) (Nat.le_of_ble_eq_true rfl) rfl (Nat.le_of_ble_eq_true rfl) ?_
      refine ab_aload_n C dX9_gain_51 rfl ?_
      refine ab_getR C dX9_gain_52 flX9_49 rkC_0 rfl mmC_0 ?_
      refine ab_aload_n C dX9_gain_55 rfl ?_
      refine ab_getR C dX9_gain_56 flX9_19 rkC_0 rfl mmC_0 ?_
      refine ab_getI C dX9_gain_59 flX9_162 rkC_5 rfl mmC_5 ?_
      obtain ⟨q7, hq7, h⟩ := ab_bind h
      refine ab_inv1 C dX9_gain_62 mlX9_207 yvX1_weighed rkC_21 ⟨_, _, rfl⟩ mmC_21 (tX1_weighed l _ _ hq7) (Nat.le_of_ble_eq_true rfl) (Nat.le_of_ble_eq_true rfl) rfl (Nat.le_of_ble_eq_true rfl) ?_
      refine ab_lsub C dX9_gain_65  ?_
      refine ab_lstore C dX9_gain_66 (Nat.le_of_ble_eq_true rfl) ?_
      refine ab_lload C dX9_gain_68 rfl ?_
      refine ab_lload_n C dX9_gain_70 rfl ?_
      refine ab_iload_n C dX9_gain_71 rfl ?_
      obtain ⟨q8, hq8, h⟩ := ab_bind h
      refine ab_invS1 C dX9_gain_72 mlX9_211 ysX9_lowest (tX9_lowest l _ _ _ _ hq8) (Nat.le_of_ble_eq_true rfl) (Nat.le_of_ble_eq_true rfl) rfl (Nat.le_of_ble_eq_true rfl) ?_
      obtain rfl := Option.some.inj h
      exact ab_lret C dX9_gain_75
    · replace h := ab_pos hc4 h
      refine ab_ldc2 C dX9_gain_29 cwX9_205 ?_
      obtain rfl := Option.some.inj h
      exact ab_lret C dX9_gain_32
  · replace h := ab_pos hc2 h
    refine ab_ldc2 C dX9_gain_7 cwX9_199 ?_
    obtain rfl := Option.some.inj h
    exact ab_lret C dX9_gain_10
end
def fX9_hardest_b19 (σ : ab_S) : Option (Int64 × ab_S) := some ((-9223372036854775808), σ)
def fX9_hardest_b124 (t0 : Int64) (σ : ab_S) : Option (Int64 × ab_S) := some (t0, σ)
def fX9_hardest_b89 (kk42 : Int32 → Int32 → Int32 → Int32 → ab_S → Option (Int64 × ab_S)) (v1 : Int32) (v2 : Int32) (v3 : Int32) (v4 : Int32) (σ : ab_S) : Option (Int64 × ab_S) := kk42 v1 v2 v3 (v4 + 1) σ
def fX9_hardest_b86 (kk42 : Int32 → Int32 → Int32 → Int32 → ab_S → Option (Int64 × ab_S)) (v1 : Int32) (v2 : Int32) (v4 : Int32) (σ : ab_S) : Option (Int64 × ab_S) := fX9_hardest_b89 kk42 v1 v2 v4 v4 σ
def fX9_hardest_b42_o (kk42 : Int32 → Int32 → Int32 → Int32 → ab_S → Option (Int64 × ab_S)) (v1 : Int32) (v2 : Int32) (v3 : Int32) (v4 : Int32) (σ : ab_S) : Option (Int64 × ab_S) := (if 4 ≤ v4 then (if v2 = 2 then fX9_hardest_b124 ((v3 : Int32).toInt64) σ else (fX1_greatestWorth v3 σ).bind fun q3 => (fX7_wholeWorth q3.2).bind fun q4 => (fX9_lowest q3.1 q4 v2).bind fun q5 => fX9_hardest_b124 q5 q3.2) else (fX9_isIn v1 v4).bind fun q6 => (if q6 = 0 then fX9_hardest_b89 kk42 v1 v2 v3 v4 σ else (if v3 = ((-1)) then fX9_hardest_b86 kk42 v1 v2 v4 σ else (fX1_greatestWorth v4 σ).bind fun q9 => (fX1_greatestWorth v3 q9.2).bind fun q10 => (if 0 ≤ (lg_cmp q9.1 q10.1) then fX9_hardest_b89 kk42 v1 v2 v3 v4 q10.2 else fX9_hardest_b86 kk42 v1 v2 v4 q10.2))))
def fX9_hardest_b42 : Nat → Int32 → Int32 → Int32 → Int32 → ab_S → Option (Int64 × ab_S)
  | 0 => fun _ _ _ _ _ => none
  | n + 1 => fX9_hardest_b42_o  (fX9_hardest_b42 n)
def fX9_hardest_b23 (v1 : Int32) (v2 : Int32) (σ : ab_S) : Option (Int64 × ab_S) := (fX7_together σ).bind fun q1 => (if q1 = 0 then some ((-2), σ) else fX9_hardest_b42 ab_N v1 v2 ((-1)) 0 σ)
def fX9_hardest (x1 : Int32) (x2 : Int32) (σ : ab_S) : Option (Int64 × ab_S) := (fX9_areHosts x1).bind fun q1 => (if q1 = 0 then fX9_hardest_b19 σ else (fX9_isPart x2).bind fun q3 => (if q3 = 0 then (if x2 = 2 then fX9_hardest_b23 x1 x2 σ else fX9_hardest_b19 σ) else fX9_hardest_b23 x1 x2 σ))
section
variable {p : Program} {l : Launch} {e : Env} {s : State} {m : MethodId} {args : Array Value} {below : List Frame} {meth : Method} {c : Code} {D : va_G} {cA : Nat → ClassId} {ad : Nat → Nat → Nat}
set_option maxRecDepth 100000 in
set_option maxHeartbeats 4000000 in
theorem gX9_hardest_b19 {R : (Int64 × ab_S)} (C : ab_C yC p s m args meth c D cA ad cX9_hardest 5 RX9 (some .long)) (σ : ab_S) (h : fX9_hardest_b19 σ = some R) : ab_G yC p l e s m args below meth c D cA ad 5 70 (some (.inr (.inl R.1))) R.2 19 [none, none, none, none, none] [] σ := by
  refine ab_ldc2 C dX9_hardest_19 cwX9_199 ?_
  obtain rfl := Option.some.inj h
  exact ab_lret C dX9_hardest_22
set_option maxRecDepth 100000 in
set_option maxHeartbeats 4000000 in
theorem gX9_hardest_b124 {R : (Int64 × ab_S)} (C : ab_C yC p s m args meth c D cA ad cX9_hardest 5 RX9 (some .long)) (t0 : Int64) (σ : ab_S) (h : fX9_hardest_b124 t0 σ = some R) : ab_G yC p l e s m args below meth c D cA ad 5 70 (some (.inr (.inl R.1))) R.2 124 [none, none, none, none, none] [.inr (.inl t0)] σ := by
  obtain rfl := Option.some.inj h
  exact ab_lret C dX9_hardest_124
set_option maxRecDepth 100000 in
set_option maxHeartbeats 4000000 in
theorem gX9_hardest_b89 {R : (Int64 × ab_S)} (C : ab_C yC p s m args meth c D cA ad cX9_hardest 5 RX9 (some .long)) {kk42 : Int32 → Int32 → Int32 → Int32 → ab_S → Option (Int64 × ab_S)} (hk42 : ∀ (v1 : Int32) (v2 : Int32) (v3 : Int32) (v4 : Int32) (σ : ab_S), kk42 v1 v2 v3 v4 σ = some R → ab_G yC p l e s m args below meth c D cA ad 5 70 (some (.inr (.inl R.1))) R.2 42 [some (.inr (.inr (0, 0))), some (.inl v1), some (.inl v2), some (.inl v3), some (.inl v4)] [] σ) (v1 : Int32) (v2 : Int32) (v3 : Int32) (v4 : Int32) (σ : ab_S) (h : fX9_hardest_b89 kk42 v1 v2 v3 v4 σ = some R) : ab_G yC p l e s m args below meth c D cA ad 5 70 (some (.inr (.inl R.1))) R.2 89 [some (.inr (.inr (0, 0))), some (.inl v1), some (.inl v2), some (.inl v3), some (.inl v4)] [] σ := by
  refine ab_iinc C dX9_hardest_89 rfl (v := 1) rfl (Nat.le_of_ble_eq_true rfl) ?_
  refine ab_goto C (tgt := 42) dX9_hardest_92 (by decide) ?_
  refine ab_weak (lv' := [some (.inr (.inr (0, 0))), some (.inl v1), some (.inl v2), some (.inl v3), some (.inl (v4 + 1))]) ⟨.inr rfl, ⟨.inr rfl, ⟨.inr rfl, ⟨.inr rfl, ⟨.inr rfl, trivial⟩⟩⟩⟩⟩ ?_
  exact hk42 _ _ _ _ _ h
set_option maxRecDepth 100000 in
set_option maxHeartbeats 4000000 in
theorem gX9_hardest_b86 {R : (Int64 × ab_S)} (C : ab_C yC p s m args meth c D cA ad cX9_hardest 5 RX9 (some .long)) {kk42 : Int32 → Int32 → Int32 → Int32 → ab_S → Option (Int64 × ab_S)} (hk42 : ∀ (v1 : Int32) (v2 : Int32) (v3 : Int32) (v4 : Int32) (σ : ab_S), kk42 v1 v2 v3 v4 σ = some R → ab_G yC p l e s m args below meth c D cA ad 5 70 (some (.inr (.inl R.1))) R.2 42 [some (.inr (.inr (0, 0))), some (.inl v1), some (.inl v2), some (.inl v3), some (.inl v4)] [] σ) (v1 : Int32) (v2 : Int32) (v4 : Int32) (σ : ab_S) (h : fX9_hardest_b86 kk42 v1 v2 v4 σ = some R) : ab_G yC p l e s m args below meth c D cA ad 5 70 (some (.inr (.inl R.1))) R.2 86 [some (.inr (.inr (0, 0))), some (.inl v1), some (.inl v2), none, some (.inl v4)] [] σ := by
  refine ab_iload C dX9_hardest_86 rfl ?_
  refine ab_istore_n C dX9_hardest_88 (Nat.le_of_ble_eq_true rfl) ?_
  refine ab_weak (lv' := [some (.inr (.inr (0, 0))), some (.inl v1), some (.inl v2), some (.inl v4), some (.inl v4)]) ⟨.inr rfl, ⟨.inr rfl, ⟨.inr rfl, ⟨.inr rfl, ⟨.inr rfl, trivial⟩⟩⟩⟩⟩ ?_
  exact gX9_hardest_b89 C hk42 _ _ _ _ _ h
set_option maxRecDepth 100000 in
set_option maxHeartbeats 4000000 in
theorem gX9_hardest_b42_o {R : (Int64 × ab_S)} (C : ab_C yC p s m args meth c D cA ad cX9_hardest 5 RX9 (some .long)) {kk42 : Int32 → Int32 → Int32 → Int32 → ab_S → Option (Int64 × ab_S)} (hk42 : ∀ (v1 : Int32) (v2 : Int32) (v3 : Int32) (v4 : Int32) (σ : ab_S), kk42 v1 v2 v3 v4 σ = some R → ab_G yC p l e s m args below meth c D cA ad 5 70 (some (.inr (.inl R.1))) R.2 42 [some (.inr (.inr (0, 0))), some (.inl v1), some (.inl v2), some (.inl v3), some (.inl v4)] [] σ) (v1 : Int32) (v2 : Int32) (v3 : Int32) (v4 : Int32) (σ : ab_S) (h : fX9_hardest_b42_o kk42 v1 v2 v3 v4 σ = some R) : ab_G yC p l e s m args below meth c D cA ad 5 70 (some (.inr (.inl R.1))) R.2 42 [some (.inr (.inr (0, 0))), some (.inl v1), some (.inl v2), some (.inl v3), some (.inl v4)] [] σ := by
  refine ab_iload C dX9_hardest_42 rfl ?_
  refine ab_iconst C dX9_hardest_44 (v := 4) rfl ?_
  refine ab_icmp_ge C (tgt := 95) dX9_hardest_45 (by decide) (fun hc1 => ?_) (fun hc1 => ?_)
  · replace h := ab_pos hc1 h
    refine ab_iload_n C dX9_hardest_95 rfl ?_
    refine ab_iconst C dX9_hardest_96 (v := 2) rfl ?_
    refine ab_icmp_ne C (tgt := 105) dX9_hardest_97 (by decide) (fun hc2 => ?_) (fun hc2 => ?_)
    · replace h := ab_neg hc2 h
      refine ab_aload_n C dX9_hardest_105 rfl ?_
      refine ab_getR C dX9_hardest_106 flX9_49 rkC_0 rfl mmC_0 ?_
      refine ab_iload_n C dX9_hardest_109 rfl ?_
      obtain ⟨q3, hq3, h⟩ := ab_bind h
      refine ab_inv1 C dX9_hardest_110 mlX9_237 yvX1_greatestWorth rkC_21 ⟨_, _, rfl⟩ mmC_21 (tX1_greatestWorth l _ _ hq3) (Nat.le_of_ble_eq_true rfl) (Nat.le_of_ble_eq_true rfl) rfl (Nat.le_of_ble_eq_true rfl) ?_
      refine ab_aload_n C dX9_hardest_113 rfl ?_
      refine ab_getR C dX9_hardest_114 flX9_10 rkC_0 rfl mmC_0 ?_
      obtain ⟨q4, hq4, h⟩ := ab_bind h
      refine ab_inv1 C dX9_hardest_117 mlX9_234 yvX7_wholeWorth rkC_1 ⟨_, _, rfl⟩ mmC_1 (tX7_wholeWorth l _ hq4) (Nat.le_of_ble_eq_true rfl) (Nat.le_of_ble_eq_true rfl) rfl (Nat.le_of_ble_eq_true rfl) ?_
      refine ab_iload_n C dX9_hardest_120 rfl ?_
      obtain ⟨q5, hq5, h⟩ := ab_bind h
      refine ab_invS1 C dX9_hardest_121 mlX9_211 ysX9_lowest (tX9_lowest l _ _ _ _ hq5) (Nat.le_of_ble_eq_true rfl) (Nat.le_of_ble_eq_true rfl) rfl (Nat.le_of_ble_eq_true rfl) ?_
      refine ab_weak (lv' := [none, none, none, none, none]) ⟨.inl rfl, ⟨.inl rfl, ⟨.inl rfl, ⟨.inl rfl, ⟨.inl rfl, trivial⟩⟩⟩⟩⟩ ?_
      exact gX9_hardest_b124 C _ _ h
    · replace h := ab_pos hc2 h
      refine ab_iload_n C dX9_hardest_100 rfl ?_
      refine ab_i2l C dX9_hardest_101  ?_
      refine ab_goto C (tgt := 124) dX9_hardest_102 (by decide) ?_
      refine ab_weak (lv' := [none, none, none, none, none]) ⟨.inl rfl, ⟨.inl rfl, ⟨.inl rfl, ⟨.inl rfl, ⟨.inl rfl, trivial⟩⟩⟩⟩⟩ ?_
      exact gX9_hardest_b124 C _ _ h
  · replace h := ab_neg hc1 h
    refine ab_iload_n C dX9_hardest_48 rfl ?_
    refine ab_iload C dX9_hardest_49 rfl ?_
    obtain ⟨q6, hq6, h⟩ := ab_bind h
    refine ab_invS1 C dX9_hardest_51 mlX9_246 ysX9_isIn (tX9_isIn l _ _ _ hq6) (Nat.le_of_ble_eq_true rfl) (Nat.le_of_ble_eq_true rfl) rfl (Nat.le_of_ble_eq_true rfl) ?_
    refine ab_if_ne C (tgt := 60) dX9_hardest_54 (by decide) (fun hc7 => ?_) (fun hc7 => ?_)
    · replace h := ab_neg hc7 h
      refine ab_iload_n C dX9_hardest_60 rfl ?_
      refine ab_iconst C dX9_hardest_61 (v := (-1)) rfl ?_
      refine ab_icmp_eq C (tgt := 86) dX9_hardest_62 (by decide) (fun hc8 => ?_) (fun hc8 => ?_)
      · replace h := ab_pos hc8 h
        refine ab_weak (lv' := [some (.inr (.inr (0, 0))), some (.inl v1), some (.inl v2), none, some (.inl v4)]) ⟨.inr rfl, ⟨.inr rfl, ⟨.inr rfl, ⟨.inl rfl, ⟨.inr rfl, trivial⟩⟩⟩⟩⟩ ?_
        exact gX9_hardest_b86 C hk42 _ _ _ _ h
      · replace h := ab_neg hc8 h
        refine ab_aload_n C dX9_hardest_65 rfl ?_
        refine ab_getR C dX9_hardest_66 flX9_49 rkC_0 rfl mmC_0 ?_
        refine ab_iload C dX9_hardest_69 rfl ?_
        obtain ⟨q9, hq9, h⟩ := ab_bind h
        refine ab_inv1 C dX9_hardest_71 mlX9_237 yvX1_greatestWorth rkC_21 ⟨_, _, rfl⟩ mmC_21 (tX1_greatestWorth l _ _ hq9) (Nat.le_of_ble_eq_true rfl) (Nat.le_of_ble_eq_true rfl) rfl (Nat.le_of_ble_eq_true rfl) ?_
        refine ab_aload_n C dX9_hardest_74 rfl ?_
        refine ab_getR C dX9_hardest_75 flX9_49 rkC_0 rfl mmC_0 ?_
        refine ab_iload_n C dX9_hardest_78 rfl ?_
        obtain ⟨q10, hq10, h⟩ := ab_bind h
        refine ab_inv1 C dX9_hardest_79 mlX9_237 yvX1_greatestWorth rkC_21 ⟨_, _, rfl⟩ mmC_21 (tX1_greatestWorth l _ _ hq10) (Nat.le_of_ble_eq_true rfl) (Nat.le_of_ble_eq_true rfl) rfl (Nat.le_of_ble_eq_true rfl) ?_
        refine ab_lcmp C dX9_hardest_82  ?_
        refine ab_if_ge C (tgt := 89) dX9_hardest_83 (by decide) (fun hc11 => ?_) (fun hc11 => ?_)
        · replace h := ab_pos hc11 h
          refine ab_weak (lv' := [some (.inr (.inr (0, 0))), some (.inl v1), some (.inl v2), some (.inl v3), some (.inl v4)]) ⟨.inr rfl, ⟨.inr rfl, ⟨.inr rfl, ⟨.inr rfl, ⟨.inr rfl, trivial⟩⟩⟩⟩⟩ ?_
          exact gX9_hardest_b89 C hk42 _ _ _ _ _ h
        · replace h := ab_neg hc11 h
          refine ab_weak (lv' := [some (.inr (.inr (0, 0))), some (.inl v1), some (.inl v2), none, some (.inl v4)]) ⟨.inr rfl, ⟨.inr rfl, ⟨.inr rfl, ⟨.inl rfl, ⟨.inr rfl, trivial⟩⟩⟩⟩⟩ ?_
          exact gX9_hardest_b86 C hk42 _ _ _ _ h
    · replace h := ab_pos hc7 h
      refine ab_goto C (tgt := 89) dX9_hardest_57 (by decide) ?_
      refine ab_weak (lv' := [some (.inr (.inr (0, 0))), some (.inl v1), some (.inl v2), some (.inl v3), some (.inl v4)]) ⟨.inr rfl, ⟨.inr rfl, ⟨.inr rfl, ⟨.inr rfl, ⟨.inr rfl, trivial⟩⟩⟩⟩⟩ ?_
      exact gX9_hardest_b89 C hk42 _ _ _ _ _ h
theorem gX9_hardest_b42 {R : (Int64 × ab_S)} (C : ab_C yC p s m args meth c D cA ad cX9_hardest 5 RX9 (some .long)) : ∀ (j : Nat) (v1 : Int32) (v2 : Int32) (v3 : Int32) (v4 : Int32) (σ : ab_S), fX9_hardest_b42 j v1 v2 v3 v4 σ = some R → ab_G yC p l e s m args below meth c D cA ad 5 70 (some (.inr (.inl R.1))) R.2 42 [some (.inr (.inr (0, 0))), some (.inl v1), some (.inl v2), some (.inl v3), some (.inl v4)] [] σ := by
  intro j
  induction j with
  | zero => intro v1 v2 v3 v4 σ  h; cases h
  | succ j ih => intro v1 v2 v3 v4 σ  h; exact gX9_hardest_b42_o C ih _ _ _ _ _ h
set_option maxRecDepth 100000 in
set_option maxHeartbeats 4000000 in
theorem gX9_hardest_b23 {R : (Int64 × ab_S)} (C : ab_C yC p s m args meth c D cA ad cX9_hardest 5 RX9 (some .long)) (v1 : Int32) (v2 : Int32) (σ : ab_S) (h : fX9_hardest_b23 v1 v2 σ = some R) : ab_G yC p l e s m args below meth c D cA ad 5 70 (some (.inr (.inl R.1))) R.2 23 [some (.inr (.inr (0, 0))), some (.inl v1), some (.inl v2), none, none] [] σ := by
  refine ab_aload_n C dX9_hardest_23 rfl ?_
  refine ab_getR C dX9_hardest_24 flX9_10 rkC_0 rfl mmC_0 ?_
  obtain ⟨q1, hq1, h⟩ := ab_bind h
  refine ab_inv1 C dX9_hardest_27 mlX9_227 yvX7_together rkC_1 ⟨_, _, rfl⟩ mmC_1 (tX7_together l _ hq1) (Nat.le_of_ble_eq_true rfl) (Nat.le_of_ble_eq_true rfl) rfl (Nat.le_of_ble_eq_true rfl) ?_
  refine ab_if_ne C (tgt := 37) dX9_hardest_30 (by decide) (fun hc2 => ?_) (fun hc2 => ?_)
  · replace h := ab_neg hc2 h
    refine ab_iconst C dX9_hardest_37 (v := (-1)) rfl ?_
    refine ab_istore_n C dX9_hardest_38 (Nat.le_of_ble_eq_true rfl) ?_
    refine ab_iconst C dX9_hardest_39 (v := 0) rfl ?_
    refine ab_istore C dX9_hardest_40 (Nat.le_of_ble_eq_true rfl) ?_
    refine ab_weak (lv' := [some (.inr (.inr (0, 0))), some (.inl v1), some (.inl v2), some (.inl ((-1))), some (.inl 0)]) ⟨.inr rfl, ⟨.inr rfl, ⟨.inr rfl, ⟨.inr rfl, ⟨.inr rfl, trivial⟩⟩⟩⟩⟩ ?_
    exact gX9_hardest_b42 C ab_N _ _ _ _ _ h
  · replace h := ab_pos hc2 h
    refine ab_ldc2 C dX9_hardest_33 cwX9_205 ?_
    obtain rfl := Option.some.inj h
    exact ab_lret C dX9_hardest_36
set_option maxRecDepth 100000 in
set_option maxHeartbeats 4000000 in
theorem tX9_hardest (l : Launch) (x1 : Int32) (x2 : Int32) (σ : ab_S) {R : (Int64 × ab_S)} (h : fX9_hardest x1 x2 σ = some R) : ab_M l yC yX9_hardest cX9_hardest 5 (some .long) 70 [.inr (.inr (0, 0)), .inl x1, .inl x2] σ (some (.inr (.inl R.1))) R.2 := by
  refine ab_M_intro ndC (by decide) (Nat.le_of_ble_eq_true rfl) ?_
  intro p e s m args below meth c D cA ad C
  have C : ab_C yC p s m args meth c D cA ad cX9_hardest 5 RX9 (some .long) := C
  refine ab_weak (lv' := [some (.inr (.inr (0, 0))), some (.inl x1), some (.inl x2), none, none]) ⟨.inr rfl, ⟨.inr rfl, ⟨.inr rfl, ⟨.inl rfl, ⟨.inl rfl, trivial⟩⟩⟩⟩⟩ ?_
  refine ab_iload_n C dX9_hardest_0 rfl ?_
  obtain ⟨q1, hq1, h⟩ := ab_bind h
  refine ab_invS1 C dX9_hardest_1 mlX9_243 ysX9_areHosts (tX9_areHosts l _ _ hq1) (Nat.le_of_ble_eq_true rfl) (Nat.le_of_ble_eq_true rfl) rfl (Nat.le_of_ble_eq_true rfl) ?_
  refine ab_if_eq C (tgt := 19) dX9_hardest_4 (by decide) (fun hc2 => ?_) (fun hc2 => ?_)
  · replace h := ab_pos hc2 h
    refine ab_weak (lv' := [none, none, none, none, none]) ⟨.inl rfl, ⟨.inl rfl, ⟨.inl rfl, ⟨.inl rfl, ⟨.inl rfl, trivial⟩⟩⟩⟩⟩ ?_
    exact gX9_hardest_b19 C _ h
  · replace h := ab_neg hc2 h
    refine ab_iload_n C dX9_hardest_7 rfl ?_
    obtain ⟨q3, hq3, h⟩ := ab_bind h
    refine ab_invS1 C dX9_hardest_8 mlX9_196 ysX9_isPart (tX9_isPart l _ _ hq3) (Nat.le_of_ble_eq_true rfl) (Nat.le_of_ble_eq_true rfl) rfl (Nat.le_of_ble_eq_true rfl) ?_
    refine ab_if_ne C (tgt := 23) dX9_hardest_11 (by decide) (fun hc4 => ?_) (fun hc4 => ?_)
    · replace h := ab_neg hc4 h
      refine ab_weak (lv' := [some (.inr (.inr (0, 0))), some (.inl x1), some (.inl x2), none, none]) ⟨.inr rfl, ⟨.inr rfl, ⟨.inr rfl, ⟨.inl rfl, ⟨.inl rfl, trivial⟩⟩⟩⟩⟩ ?_
      exact gX9_hardest_b23 C _ _ _ h
    · replace h := ab_pos hc4 h
      refine ab_iload_n C dX9_hardest_14 rfl ?_
      refine ab_iconst C dX9_hardest_15 (v := 2) rfl ?_
      refine ab_icmp_eq C (tgt := 23) dX9_hardest_16 (by decide) (fun hc5 => ?_) (fun hc5 => ?_)
      · replace h := ab_pos hc5 h
        refine ab_weak (lv' := [some (.inr (.inr (0, 0))), some (.inl x1), some (.inl x2), none, none]) ⟨.inr rfl, ⟨.inr rfl, ⟨.inr rfl, ⟨.inl rfl, ⟨.inl rfl, trivial⟩⟩⟩⟩⟩ ?_
        exact gX9_hardest_b23 C _ _ _ h
      · replace h := ab_neg hc5 h
        refine ab_weak (lv' := [none, none, none, none, none]) ⟨.inl rfl, ⟨.inl rfl, ⟨.inl rfl, ⟨.inl rfl, ⟨.inl rfl, trivial⟩⟩⟩⟩⟩ ?_
        exact gX9_hardest_b19 C _ h
end
