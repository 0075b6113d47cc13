def fX5_named (k0 : Nat) (x1 : Int32) (x2 : Int32) (x3 : Int32) (x4 : Int32) (x5 : Int32) (x6 : Int32) (σ : ab_S) : Option Int32 := (if x1 = 99 then some x4 else (if x1 = 100 then some x5 else (if x1 = 110 then some (σ.1 23 k0 6) else (if x1 = 114 then some x3 else (if x1 = 120 then some x6 else some x2)))))
section
variable {p : Program} {l : Launch} {e : Env} {s : State} {m : MethodId} {args : Array Value} {below : List Frame} {meth : Method} {c : Code} {D : va_G} {cA : Nat → ClassId} {ad : Nat → Nat → Nat}
set_option maxRecDepth 100000 in
set_option maxHeartbeats 4000000 in
theorem tX5_named (l : Launch) (k0 : Nat) (x1 : Int32) (x2 : Int32) (x3 : Int32) (x4 : Int32) (x5 : Int32) (x6 : Int32) (σ : ab_S) (hk0 : k0 < 4) {R : Int32} (h : fX5_named k0 x1 x2 x3 x4 x5 x6 σ = some R) : ab_M l yC yX5_named cX5_named 7 (some .int) 0 [.inr (.inr (23, k0)), .inl x1, .inl x2, .inl x3, .inl x4, .inl x5, .inl x6] σ (some (.inl R)) σ := by
  refine ab_M_intro ndC (by decide) (Nat.le_of_ble_eq_true rfl) ?_
  intro p e s m args below meth c D cA ad C
  have C : ab_C yC p s m args meth c D cA ad cX5_named 7 RX5 (some .int) := C
  refine ab_weak (lv' := [some (.inr (.inr (23, k0))), some (.inl x1), some (.inl x2), some (.inl x3), some (.inl x4), some (.inl x5), some (.inl x6)]) ⟨.inr rfl, ⟨.inr rfl, ⟨.inr rfl, ⟨.inr rfl, ⟨.inr rfl, ⟨.inr rfl, ⟨.inr rfl, trivial⟩⟩⟩⟩⟩⟩⟩ ?_
  refine ab_iload_n C dX5_named_0 rfl ?_
  by_cases hc1 : x1 = 99
  · replace h := ab_pos hc1 h
    refine ab_lsw C (off := 57) (tgt := 58) dX5_named_1.1 (by decide) (by rw [hc1]; decide) (by decide) ?_
    refine ab_iload C dX5_named_58 rfl ?_
    obtain rfl := Option.some.inj h
    exact ab_iret C dX5_named_60
  · replace h := ab_neg hc1 h
    by_cases hc2 : x1 = 100
    · replace h := ab_pos hc2 h
      refine ab_lsw C (off := 51) (tgt := 52) dX5_named_1.1 (by decide) (by rw [hc2]; decide) (by decide) ?_
      refine ab_iload C dX5_named_52 rfl ?_
      obtain rfl := Option.some.inj h
      exact ab_iret C dX5_named_54
    · replace h := ab_neg hc2 h
      by_cases hc3 : x1 = 110
      · replace h := ab_pos hc3 h
        refine ab_lsw C (off := 60) (tgt := 61) dX5_named_1.1 (by decide) (by rw [hc3]; decide) (by decide) ?_
        refine ab_aload_n C dX5_named_61 rfl ?_
        refine ab_getI C dX5_named_62 flX5_45 rkC_23 rfl (mmC_23 (hk0)) ?_
        obtain rfl := Option.some.inj h
        exact ab_iret C dX5_named_65
      · replace h := ab_neg hc3 h
        by_cases hc4 : x1 = 114
        · replace h := ab_pos hc4 h
          refine ab_lsw C (off := 65) (tgt := 66) dX5_named_1.1 (by decide) (by rw [hc4]; decide) (by decide) ?_
          refine ab_iload_n C dX5_named_66 rfl ?_
          obtain rfl := Option.some.inj h
          exact ab_iret C dX5_named_67
        · replace h := ab_neg hc4 h
          by_cases hc5 : x1 = 120
          · replace h := ab_pos hc5 h
            refine ab_lsw C (off := 54) (tgt := 55) dX5_named_1.1 (by decide) (by rw [hc5]; decide) (by decide) ?_
            refine ab_iload C dX5_named_55 rfl ?_
            obtain rfl := Option.some.inj h
            exact ab_iret C dX5_named_57
          · replace h := ab_neg hc5 h
            refine ab_lsw C (off := 67) (tgt := 68) dX5_named_1.1 (by decide) (by show Op.lookupswitch.offset [(99, 57), (100, 51), (110, 60), (114, 65), (120, 54)] 67 _ = 67; rw [lv_osw hc1 (by decide), lv_osw hc2 (by decide), lv_osw hc3 (by decide), lv_osw hc4 (by decide), lv_osw hc5 (by decide)]; rfl) (by decide) ?_
            refine ab_iload_n C dX5_named_68 rfl ?_
            obtain rfl := Option.some.inj h
            exact ab_iret C dX5_named_69
end
def fX5_pop (k0 : Nat) (σ : ab_S) : Option (Int32 × ab_S) := (if 0 < (σ.1 23 k0 4) then ab_k (ab_si σ 23 k0 4 ((σ.1 23 k0 4) - 1)) fun σ2 => (if ab_inb (σ2.1 23 k0 4) 121 = true then some (σ2.1 25 k0 ((σ2.1 23 k0 4).toNatClampNeg), σ2) else none) else some (0, σ))
section
variable {p : Program} {l : Launch} {e : Env} {s : State} {m : MethodId} {args : Array Value} {below : List Frame} {meth : Method} {c : Code} {D : va_G} {cA : Nat → ClassId} {ad : Nat → Nat → Nat}
set_option maxRecDepth 100000 in
set_option maxHeartbeats 4000000 in
theorem tX5_pop (l : Launch) (k0 : Nat) (σ : ab_S) (hk0 : k0 < 4) {R : (Int32 × ab_S)} (h : fX5_pop k0 σ = some R) : ab_M l yC yX5_pop cX5_pop 1 (some .int) 0 [.inr (.inr (23, k0))] σ (some (.inl R.1)) R.2 := by
  refine ab_M_intro ndC (by decide) (Nat.le_of_ble_eq_true rfl) ?_
  intro p e s m args below meth c D cA ad C
  have C : ab_C yC p s m args meth c D cA ad cX5_pop 1 RX5 (some .int) := C
  refine ab_weak (lv' := [some (.inr (.inr (23, k0)))]) ⟨.inr rfl, trivial⟩ ?_
  refine ab_aload_n C dX5_pop_0 rfl ?_
  refine ab_getI C dX5_pop_1 flX5_74 rkC_23 rfl (mmC_23 (hk0)) ?_
  refine ab_if_gt C (tgt := 9) dX5_pop_4 (by decide) (fun hc1 => ?_) (fun hc1 => ?_)
  · replace h := ab_pos hc1 h
    refine ab_aload_n C dX5_pop_9 rfl ?_
    refine ab_dup C dX5_pop_10 rfl ?_
    refine ab_getI C dX5_pop_11 flX5_74 rkC_23 rfl (mmC_23 (hk0)) ?_
    refine ab_iconst C dX5_pop_14 (v := 1) rfl ?_
    refine ab_isub C dX5_pop_15  ?_
    refine ab_putI C dX5_pop_16 fpX5_74 rkC_23 rfl (mmC_23 (hk0)) rfl rfl ?_
    refine ab_nmS (fun σ2 eσ2 => ?_)
    replace h := ab_kh eσ2 h
    refine ab_aload_n C dX5_pop_19 rfl ?_
    refine ab_getR C dX5_pop_20 flX5_15 rkC_23 rfl (mmC_23 (hk0)) ?_
    refine ab_aload_n C dX5_pop_23 rfl ?_
    refine ab_getI C dX5_pop_24 flX5_74 rkC_23 rfl (mmC_23 (hk0)) ?_
    obtain ⟨hg3, h⟩ := ab_grd h
    refine ab_iald C dX5_pop_27 rkC_25 (mmC_25 (hk0)) hg3 ?_
    obtain rfl := Option.some.inj h
    exact ab_iret C dX5_pop_28
  · replace h := ab_neg hc1 h
    refine ab_iconst C dX5_pop_7 (v := 0) rfl ?_
    obtain rfl := Option.some.inj h
    exact ab_iret C dX5_pop_8
end
def fX5_push_b16 (σ : ab_S) : Option ab_S := some σ
def fX5_push (k0 : Nat) (x1 : Int32) (σ : ab_S) : Option ab_S := (if (σ.1 23 k0 4) < 0 then fX5_push_b16 σ else (if (σ.1 23 k0 4) < 121 then (if ab_inb (σ.1 23 k0 4) 121 = true then ab_k (ab_si σ 25 k0 ((σ.1 23 k0 4).toNatClampNeg) x1) fun σ4 => ab_k (ab_si σ4 23 k0 4 ((σ4.1 23 k0 4) + 1)) fun σ5 => some σ5 else none) else fX5_push_b16 σ))
section
variable {p : Program} {l : Launch} {e : Env} {s : State} {m : MethodId} {args : Array Value} {below : List Frame} {meth : Method} {c : Code} {D : va_G} {cA : Nat → ClassId} {ad : Nat → Nat → Nat}
set_option maxRecDepth 100000 in
set_option maxHeartbeats 4000000 in
theorem gX5_push_b16 {R : ab_S} (C : ab_C yC p s m args meth c D cA ad cX5_push 2 RX5 none) (σ : ab_S) (h : fX5_push_b16 σ = some R) : ab_G yC p l e s m args below meth c D cA ad 2 0 none R 16 [none, none] [] σ := by
  obtain rfl := Option.some.inj h
  exact ab_vret C dX5_push_16
set_option maxRecDepth 100000 in
set_option maxHeartbeats 4000000 in
theorem tX5_push (l : Launch) (k0 : Nat) (x1 : Int32) (σ : ab_S) (hk0 : k0 < 4) {R : ab_S} (h : fX5_push k0 x1 σ = some R) : ab_M l yC yX5_push cX5_push 2 none 0 [.inr (.inr (23, k0)), .inl x1] σ none R := by
  refine ab_M_intro ndC (by decide) (Nat.le_of_ble_eq_true rfl) ?_
  intro p e s m args below meth c D cA ad C
  have C : ab_C yC p s m args meth c D cA ad cX5_push 2 RX5 none := C
  refine ab_weak (lv' := [some (.inr (.inr (23, k0))), some (.inl x1)]) ⟨.inr rfl, ⟨.inr rfl, trivial⟩⟩ ?_
  refine ab_aload_n C dX5_push_0 rfl ?_
  refine ab_getI C dX5_push_1 flX5_74 rkC_23 rfl (mmC_23 (hk0)) ?_
  refine ab_if_lt C (tgt := 16) dX5_push_4 (by decide) (fun hc1 => ?_) (fun hc1 => ?_)
  · replace h := ab_pos hc1 h
    refine ab_weak (lv' := [none, none]) ⟨.inl rfl, ⟨.inl rfl, trivial⟩⟩ ?_
    exact gX5_push_b16 C _ h
  · replace h := ab_neg hc1 h
    refine ab_aload_n C dX5_push_7 rfl ?_
    refine ab_getI C dX5_push_8 flX5_74 rkC_23 rfl (mmC_23 (hk0)) ?_
    refine ab_bipush C dX5_push_11 (v := 121) rfl ?_
    refine ab_icmp_lt C (tgt := 17) dX5_push_13 (by decide) (fun hc2 => ?_) (fun hc2 => ?_)
    · replace h := ab_pos hc2 h
      refine ab_aload_n C dX5_push_17 rfl ?_
      refine ab_getR C dX5_push_18 flX5_15 rkC_23 rfl (mmC_23 (hk0)) ?_
      refine ab_aload_n C dX5_push_21 rfl ?_
      refine ab_getI C dX5_push_22 flX5_74 rkC_23 rfl (mmC_23 (hk0)) ?_
      refine ab_iload_n C dX5_push_25 rfl ?_
      obtain ⟨hg3, h⟩ := ab_grd h
      refine ab_iast C dX5_push_26 rkC_25 (mmC_25 (hk0)) hg3 ?_
      refine ab_nmS (fun σ4 eσ4 => ?_)
      replace h := ab_kh eσ4 h
      refine ab_aload_n C dX5_push_27 rfl ?_
      refine ab_dup C dX5_push_28 rfl ?_
      refine ab_getI C dX5_push_29 flX5_74 rkC_23 rfl (mmC_23 (hk0)) ?_
      refine ab_iconst C dX5_push_32 (v := 1) rfl ?_
      refine ab_iadd C dX5_push_33  ?_
      refine ab_putI C dX5_push_34 fpX5_74 rkC_23 rfl (mmC_23 (hk0)) rfl rfl ?_
      refine ab_nmS (fun σ5 eσ5 => ?_)
      replace h := ab_kh eσ5 h
      obtain rfl := Option.some.inj h
      exact ab_vret C dX5_push_37
    · replace h := ab_neg hc2 h
      refine ab_weak (lv' := [none, none]) ⟨.inl rfl, ⟨.inl rfl, trivial⟩⟩ ?_
      exact gX5_push_b16 C _ h
end
def fX5_worked_b221 (σ : ab_S) : Option (Int32 × ab_S) := some (0, σ)
def fX5_worked_b215 (kk11 : Nat → Int32 → Int32 → Int32 → Int32 → Int32 → Int32 → Int32 → ab_S → Option (Int32 × ab_S)) (c0 : Nat) (v1 : Int32) (v2 : Int32) (v3 : Int32) (v4 : Int32) (v5 : Int32) (v6 : Int32) (v7 : Int32) (σ : ab_S) : Option (Int32 × ab_S) := kk11 c0 v1 v2 v3 v4 v5 v6 (v7 + 1) σ
def fX5_worked_b169 (kk11 : Nat → Int32 → Int32 → Int32 → Int32 → Int32 → Int32 → Int32 → ab_S → Option (Int32 × ab_S)) (c0 : Nat) (v1 : Int32) (v2 : Int32) (v3 : Int32) (v4 : Int32) (v5 : Int32) (v6 : Int32) (v7 : Int32) (d0 : Nat) (t1 : Int32) (σ : ab_S) : Option (Int32 × ab_S) := (fX5_push d0 t1 σ).bind fun q1 => fX5_worked_b215 kk11 c0 v1 v2 v3 v4 v5 v6 v7 q1
def fX5_worked_b149 (kk11 : Nat → Int32 → Int32 → Int32 → Int32 → Int32 → Int32 → Int32 → ab_S → Option (Int32 × ab_S)) (c0 : Nat) (v1 : Int32) (v2 : Int32) (v3 : Int32) (v4 : Int32) (v5 : Int32) (v6 : Int32) (v7 : Int32) (v8 : Int32) (σ : ab_S) : Option (Int32 × ab_S) := (if v8 = 33 then (fX5_pop c0 σ).bind fun q9 => (if q9.1 = 0 then fX5_worked_b169 kk11 c0 v1 v2 v3 v4 v5 v6 v7 c0 1 q9.2 else fX5_worked_b169 kk11 c0 v1 v2 v3 v4 v5 v6 v7 c0 0 q9.2) else (if v8 = 126 then (fX5_pop c0 σ).bind fun q7 => (fX5_push c0 (-q7.1) q7.2).bind fun q8 => fX5_worked_b215 kk11 c0 v1 v2 v3 v4 v5 v6 v7 q8 else (fX5_pop c0 σ).bind fun q3 => (fX5_pop c0 q3.2).bind fun q4 => (fX5_joined v8 q4.1 q3.1).bind fun q5 => (fX5_push c0 q5 q4.2).bind fun q6 => fX5_worked_b215 kk11 c0 v1 v2 v3 v4 v5 v6 v7 q6))
def fX5_worked_b89 (kk11 : Nat → Int32 → Int32 → Int32 → Int32 → Int32 → Int32 → Int32 → ab_S → Option (Int32 × ab_S)) (c0 : Nat) (v1 : Int32) (v2 : Int32) (v3 : Int32) (v4 : Int32) (v5 : Int32) (v7 : Int32) (t0 : Int32) (σ : ab_S) : Option (Int32 × ab_S) := fX5_worked_b215 kk11 c0 v1 v2 v3 v4 v5 t0 v7 σ
def fX5_worked_b53 (kk11 : Nat → Int32 → Int32 → Int32 → Int32 → Int32 → Int32 → Int32 → ab_S → Option (Int32 × ab_S)) (c0 : Nat) (v1 : Int32) (v2 : Int32) (v3 : Int32) (v4 : Int32) (v5 : Int32) (v7 : Int32) (t0 : Int32) (σ : ab_S) : Option (Int32 × ab_S) := fX5_worked_b215 kk11 c0 v1 v2 v3 v4 v5 t0 v7 σ
def fX5_worked_b11_o (kk11 : Nat → Int32 → Int32 → Int32 → Int32 → Int32 → Int32 → Int32 → ab_S → Option (Int32 × ab_S)) (c0 : Nat) (v1 : Int32) (v2 : Int32) (v3 : Int32) (v4 : Int32) (v5 : Int32) (v6 : Int32) (v7 : Int32) (σ : ab_S) : Option (Int32 × ab_S) := (if (σ.1 23 c0 3) ≤ v7 then fX5_worked_b221 σ else (if 121 ≤ v7 then fX5_worked_b221 σ else (if ab_inb v7 121 = true then (if v6 = 0 then (if (σ.1 24 c0 v7.toNatClampNeg) = 59 then (fX5_pop c0 σ).bind fun q15 => some (q15.1, q15.2) else (if (σ.1 24 c0 v7.toNatClampNeg) = 63 then (fX5_pop c0 σ).bind fun q13 => (if q13.1 = 0 then fX5_worked_b89 kk11 c0 v1 v2 v3 v4 v5 v7 1 q13.2 else fX5_worked_b89 kk11 c0 v1 v2 v3 v4 v5 v7 0 q13.2) else (if (σ.1 24 c0 v7.toNatClampNeg) < 1000 then (if (σ.1 24 c0 v7.toNatClampNeg) < 97 then fX5_worked_b149 kk11 c0 v1 v2 v3 v4 v5 v6 v7 (σ.1 24 c0 v7.toNatClampNeg) σ else (if 122 < (σ.1 24 c0 v7.toNatClampNeg) then fX5_worked_b149 kk11 c0 v1 v2 v3 v4 v5 v6 v7 (σ.1 24 c0 v7.toNatClampNeg) σ else (fX5_named c0 (σ.1 24 c0 v7.toNatClampNeg) v1 v2 v3 v4 v5 σ).bind fun q10 => (fX5_push c0 q10 σ).bind fun q11 => fX5_worked_b215 kk11 c0 v1 v2 v3 v4 v5 v6 v7 q11)) else (fX5_push c0 ((σ.1 24 c0 v7.toNatClampNeg) - 1000) σ).bind fun q12 => fX5_worked_b215 kk11 c0 v1 v2 v3 v4 v5 v6 v7 q12))) else (if (σ.1 24 c0 v7.toNatClampNeg) = 59 then fX5_worked_b53 kk11 c0 v1 v2 v3 v4 v5 v7 0 σ else fX5_worked_b53 kk11 c0 v1 v2 v3 v4 v5 v7 1 σ)) else none)))
def fX5_worked_b11 : Nat → Nat → Int32 → Int32 → Int32 → Int32 → Int32 → Int32 → Int32 → ab_S → Option (Int32 × ab_S)
  | 0 => fun _ _ _ _ _ _ _ _ _ => none
  | n + 1 => fX5_worked_b11_o  (fX5_worked_b11 n)
def fX5_worked (k0 : Nat) (x1 : Int32) (x2 : Int32) (x3 : Int32) (x4 : Int32) (x5 : Int32) (σ : ab_S) : Option (Int32 × ab_S) := ab_k (ab_si σ 23 k0 4 0) fun σ1 => fX5_worked_b11 ab_N k0 x1 x2 x3 x4 x5 0 0 σ1
section
variable {p : Program} {l : Launch} {e : Env} {s : State} {m : MethodId} {args : Array Value} {below : List Frame} {meth : Method} {c : Code} {D : va_G} {cA : Nat → ClassId} {ad : Nat → Nat → Nat}
set_option maxRecDepth 100000 in
set_option maxHeartbeats 4000000 in
theorem gX5_worked_b221 {R : (Int32 × ab_S)} (C : ab_C yC p s m args meth c D cA ad cX5_worked 10 RX5 (some .int)) (σ : ab_S) (h : fX5_worked_b221 σ = some R) : ab_G yC p l e s m args below meth c D cA ad 10 1 (some (.inl R.1)) R.2 221 [none, none, none, none, none, none, none, none, none, none] [] σ := by
  refine ab_iconst C dX5_worked_221 (v := 0) rfl ?_
  obtain rfl := Option.some.inj h
  exact ab_iret C dX5_worked_222
set_option maxRecDepth 100000 in
set_option maxHeartbeats 4000000 in
theorem gX5_worked_b215 {R : (Int32 × ab_S)} (C : ab_C yC p s m args meth c D cA ad cX5_worked 10 RX5 (some .int)) {kk11 : Nat → Int32 → Int32 → Int32 → Int32 → Int32 → Int32 → Int32 → ab_S → Option (Int32 × ab_S)} (hk11 : ∀ (c0 : Nat) (v1 : Int32) (v2 : Int32) (v3 : Int32) (v4 : Int32) (v5 : Int32) (v6 : Int32) (v7 : Int32) (σ : ab_S), c0 < 4 → kk11 c0 v1 v2 v3 v4 v5 v6 v7 σ = some R → ab_G yC p l e s m args below meth c D cA ad 10 1 (some (.inl R.1)) R.2 11 [some (.inr (.inr (23, c0))), some (.inl v1), some (.inl v2), some (.inl v3), some (.inl v4), some (.inl v5), some (.inl v6), some (.inl v7), none, none] [] σ) (c0 : Nat) (v1 : Int32) (v2 : Int32) (v3 : Int32) (v4 : Int32) (v5 : Int32) (v6 : Int32) (v7 : Int32) (σ : ab_S) (mc0 : c0 < 4) (h : fX5_worked_b215 kk11 c0 v1 v2 v3 v4 v5 v6 v7 σ = some R) : ab_G yC p l e s m args below meth c D cA ad 10 1 (some (.inl R.1)) R.2 215 [some (.inr (.inr (23, c0))), some (.inl v1), some (.inl v2), some (.inl v3), some (.inl v4), some (.inl v5), some (.inl v6), some (.inl v7), none, none] [] σ := by
  refine ab_iinc C dX5_worked_215 rfl (v := 1) rfl (Nat.le_of_ble_eq_true rfl) ?_
  refine ab_goto C (tgt := 11) dX5_worked_218 (by decide) ?_
  refine ab_weak (lv' := [some (.inr (.inr (23, c0))), some (.inl v1), some (.inl v2), some (.inl v3), some (.inl v4), some (.inl v5), some (.inl v6), some (.inl (v7 + 1)), none, none]) ⟨.inr rfl, ⟨.inr rfl, ⟨.inr rfl, ⟨.inr rfl, ⟨.inr rfl, ⟨.inr rfl, ⟨.inr rfl, ⟨.inr rfl, ⟨.inl rfl, ⟨.inl rfl, trivial⟩⟩⟩⟩⟩⟩⟩⟩⟩⟩ ?_
  exact hk11 _ _ _ _ _ _ _ _ _ (mc0) h
set_option maxRecDepth 100000 in
set_option maxHeartbeats 4000000 in
theorem gX5_worked_b169 {R : (Int32 × ab_S)} (C : ab_C yC p s m args meth c D cA ad cX5_worked 10 RX5 (some .int)) {kk11 : Nat → Int32 → Int32 → Int32 → Int32 → Int32 → Int32 → Int32 → ab_S → Option (Int32 × ab_S)} (hk11 : ∀ (c0 : Nat) (v1 : Int32) (v2 : Int32) (v3 : Int32) (v4 : Int32) (v5 : Int32) (v6 : Int32) (v7 : Int32) (σ : ab_S), c0 < 4 → kk11 c0 v1 v2 v3 v4 v5 v6 v7 σ = some R → ab_G yC p l e s m args below meth c D cA ad 10 1 (some (.inl R.1)) R.2 11 [some (.inr (.inr (23, c0))), some (.inl v1), some (.inl v2), some (.inl v3), some (.inl v4), some (.inl v5), some (.inl v6), some (.inl v7), none, none] [] σ) (c0 : Nat) (v1 : Int32) (v2 : Int32) (v3 : Int32) (v4 : Int32) (v5 : Int32) (v6 : Int32) (v7 : Int32) (d0 : Nat) (t1 : Int32) (σ : ab_S) (mc0 : c0 < 4) (hd0 : d0 < 4) (h : fX5_worked_b169 kk11 c0 v1 v2 v3 v4 v5 v6 v7 d0 t1 σ = some R) : ab_G yC p l e s m args below meth c D cA ad 10 1 (some (.inl R.1)) R.2 169 [some (.inr (.inr (23, c0))), some (.inl v1), some (.inl v2), some (.inl v3), some (.inl v4), some (.inl v5), some (.inl v6), some (.inl v7), none, none] [.inl t1, .inr (.inr (23, d0))] σ := by
  obtain ⟨q1, hq1, h⟩ := ab_bind h
  refine ab_inv0 C dX5_worked_169 mlX5_81 yvX5_push rkC_23 ⟨_, _, rfl⟩ (mmC_23 (hd0)) (tX5_push l _ _ _ (hd0) hq1) (Nat.le_of_ble_eq_true rfl) (Nat.le_of_ble_eq_true rfl) rfl (Nat.le_of_ble_eq_true rfl) ?_
  refine ab_goto C (tgt := 215) dX5_worked_172 (by decide) ?_
  refine ab_weak (lv' := [some (.inr (.inr (23, c0))), some (.inl v1), some (.inl v2), some (.inl v3), some (.inl v4), some (.inl v5), some (.inl v6), some (.inl v7), none, none]) ⟨.inr rfl, ⟨.inr rfl, ⟨.inr rfl, ⟨.inr rfl, ⟨.inr rfl, ⟨.inr rfl, ⟨.inr rfl, ⟨.inr rfl, ⟨.inl rfl, ⟨.inl rfl, trivial⟩⟩⟩⟩⟩⟩⟩⟩⟩⟩ ?_
  exact gX5_worked_b215 C hk11 _ _ _ _ _ _ _ _ _ (mc0) h
set_option maxRecDepth 100000 in
set_option maxHeartbeats 4000000 in
theorem gX5_worked_b149 {R : (Int32 × ab_S)} (C : ab_C yC p s m args meth c D cA ad cX5_worked 10 RX5 (some .int)) {kk11 : Nat → Int32 → Int32 → Int32 → Int32 → Int32 → Int32 → Int32 → ab_S → Option (Int32 × ab_S)} (hk11 : ∀ (c0 : Nat) (v1 : Int32) (v2 : Int32) (v3 : Int32) (v4 : Int32) (v5 : Int32) (v6 : Int32) (v7 : Int32) (σ : ab_S), c0 < 4 → kk11 c0 v1 v2 v3 v4 v5 v6 v7 σ = some R → ab_G yC p l e s m args below meth c D cA ad 10 1 (some (.inl R.1)) R.2 11 [some (.inr (.inr (23, c0))), some (.inl v1), some (.inl v2), some (.inl v3), some (.inl v4), some (.inl v5), some (.inl v6), some (.inl v7), none, none] [] σ) (c0 : Nat) (v1 : Int32) (v2 : Int32) (v3 : Int32) (v4 : Int32) (v5 : Int32) (v6 : Int32) (v7 : Int32) (v8 : Int32) (σ : ab_S) (mc0 : c0 < 4) (h : fX5_worked_b149 kk11 c0 v1 v2 v3 v4 v5 v6 v7 v8 σ = some R) : ab_G yC p l e s m args below meth c D cA ad 10 1 (some (.inl R.1)) R.2 149 [some (.inr (.inr (23, c0))), some (.inl v1), some (.inl v2), some (.inl v3), some (.inl v4), some (.inl v5), some (.inl v6), some (.inl v7), some (.inl v8), none] [] σ := by
  refine ab_iload C dX5_worked_149 rfl ?_
  refine ab_bipush C dX5_worked_151 (v := 33) rfl ?_
  refine ab_icmp_ne C (tgt := 175) dX5_worked_153 (by decide) (fun hc1 => ?_) (fun hc1 => ?_)
  · replace h := ab_neg hc1 h
    refine ab_iload C dX5_worked_175 rfl ?_
    refine ab_bipush C dX5_worked_177 (v := 126) rfl ?_
    refine ab_icmp_ne C (tgt := 194) dX5_worked_179 (by decide) (fun hc2 => ?_) (fun hc2 => ?_)
    · replace h := ab_neg hc2 h
      refine ab_aload_n C dX5_worked_194 rfl ?_
      obtain ⟨q3, hq3, h⟩ := ab_bind h
      refine ab_inv1 C dX5_worked_195 mlX5_77 yvX5_pop rkC_23 ⟨_, _, rfl⟩ (mmC_23 (mc0)) (tX5_pop l _ _ (mc0) hq3) (Nat.le_of_ble_eq_true rfl) (Nat.le_of_ble_eq_true rfl) rfl (Nat.le_of_ble_eq_true rfl) ?_
      refine ab_istore C dX5_worked_198 (Nat.le_of_ble_eq_true rfl) ?_
      refine ab_aload_n C dX5_worked_200 rfl ?_
      refine ab_iload C dX5_worked_201 rfl ?_
      refine ab_aload_n C dX5_worked_203 rfl ?_
      obtain ⟨q4, hq4, h⟩ := ab_bind h
      refine ab_inv1 C dX5_worked_204 mlX5_77 yvX5_pop rkC_23 ⟨_, _, rfl⟩ (mmC_23 (mc0)) (tX5_pop l _ _ (mc0) hq4) (Nat.le_of_ble_eq_true rfl) (Nat.le_of_ble_eq_true rfl) rfl (Nat.le_of_ble_eq_true rfl) ?_
      refine ab_iload C dX5_worked_207 rfl ?_
      obtain ⟨q5, hq5, h⟩ := ab_bind h
      refine ab_invS1 C dX5_worked_209 mlX5_89 ysX5_joined (tX5_joined l _ _ _ _ hq5) (Nat.le_of_ble_eq_true rfl) (Nat.le_of_ble_eq_true rfl) rfl (Nat.le_of_ble_eq_true rfl) ?_
      obtain ⟨q6, hq6, h⟩ := ab_bind h
      refine ab_inv0 C dX5_worked_212 mlX5_81 yvX5_push rkC_23 ⟨_, _, rfl⟩ (mmC_23 (mc0)) (tX5_push l _ _ _ (mc0) hq6) (Nat.le_of_ble_eq_true rfl) (Nat.le_of_ble_eq_true rfl) rfl (Nat.le_of_ble_eq_true rfl) ?_
      refine ab_weak (lv' := [some (.inr (.inr (23, c0))), some (.inl v1), some (.inl v2), some (.inl v3), some (.inl v4), some (.inl v5), some (.inl v6), some (.inl v7), none, none]) ⟨.inr rfl, ⟨.inr rfl, ⟨.inr rfl, ⟨.inr rfl, ⟨.inr rfl, ⟨.inr rfl, ⟨.inr rfl, ⟨.inr rfl, ⟨.inl rfl, ⟨.inl rfl, trivial⟩⟩⟩⟩⟩⟩⟩⟩⟩⟩ ?_
      exact gX5_worked_b215 C hk11 _ _ _ _ _ _ _ _ _ (mc0) h
    · replace h := ab_pos hc2 h
      refine ab_aload_n C dX5_worked_182 rfl ?_
      refine ab_aload_n C dX5_worked_183 rfl ?_
      obtain ⟨q7, hq7, h⟩ := ab_bind h
      refine ab_inv1 C dX5_worked_184 mlX5_77 yvX5_pop rkC_23 ⟨_, _, rfl⟩ (mmC_23 (mc0)) (tX5_pop l _ _ (mc0) hq7) (Nat.le_of_ble_eq_true rfl) (Nat.le_of_ble_eq_true rfl) rfl (Nat.le_of_ble_eq_true rfl) ?_
      refine ab_ineg C dX5_worked_187  ?_
      obtain ⟨q8, hq8, h⟩ := ab_bind h
      refine ab_inv0 C dX5_worked_188 mlX5_81 yvX5_push rkC_23 ⟨_, _, rfl⟩ (mmC_23 (mc0)) (tX5_push l _ _ _ (mc0) hq8) (Nat.le_of_ble_eq_true rfl) (Nat.le_of_ble_eq_true rfl) rfl (Nat.le_of_ble_eq_true rfl) ?_
      refine ab_goto C (tgt := 215) dX5_worked_191 (by decide) ?_
      refine ab_weak (lv' := [some (.inr (.inr (23, c0))), some (.inl v1), some (.inl v2), some (.inl v3), some (.inl v4), some (.inl v5), some (.inl v6), some (.inl v7), none, none]) ⟨.inr rfl, ⟨.inr rfl, ⟨.inr rfl, ⟨.inr rfl, ⟨.inr rfl, ⟨.inr rfl, ⟨.inr rfl, ⟨.inr rfl, ⟨.inl rfl, ⟨.inl rfl, trivial⟩⟩⟩⟩⟩⟩⟩⟩⟩⟩ ?_
      exact gX5_worked_b215 C hk11 _ _ _ _ _ _ _ _ _ (mc0) h
  · replace h := ab_pos hc1 h
    refine ab_aload_n C dX5_worked_156 rfl ?_
    refine ab_aload_n C dX5_worked_157 rfl ?_
    obtain ⟨q9, hq9, h⟩ := ab_bind h
    refine ab_inv1 C dX5_worked_158 mlX5_77 yvX5_pop rkC_23 ⟨_, _, rfl⟩ (mmC_23 (mc0)) (tX5_pop l _ _ (mc0) hq9) (Nat.le_of_ble_eq_true rfl) (Nat.le_of_ble_eq_true rfl) rfl (Nat.le_of_ble_eq_true rfl) ?_
    refine ab_if_ne C (tgt := 168) dX5_worked_161 (by decide) (fun hc10 => ?_) (fun hc10 => ?_)
    · replace h := ab_neg hc10 h
      refine ab_iconst C dX5_worked_168 (v := 0) rfl ?_
      refine ab_weak (lv' := [some (.inr (.inr (23, c0))), some (.inl v1), some (.inl v2), some (.inl v3), some (.inl v4), some (.inl v5), some (.inl v6), some (.inl v7), none, none]) ⟨.inr rfl, ⟨.inr rfl, ⟨.inr rfl, ⟨.inr rfl, ⟨.inr rfl, ⟨.inr rfl, ⟨.inr rfl, ⟨.inr rfl, ⟨.inl rfl, ⟨.inl rfl, trivial⟩⟩⟩⟩⟩⟩⟩⟩⟩⟩ ?_
      exact gX5_worked_b169 C hk11 _ _ _ _ _ _ _ _ _ _ _ (mc0) (mc0) h
    · replace h := ab_pos hc10 h
      refine ab_iconst C dX5_worked_164 (v := 1) rfl ?_
      refine ab_goto C (tgt := 169) dX5_worked_165 (by decide) ?_
      refine ab_weak (lv' := [some (.inr (.inr (23, c0))), some (.inl v1), some (.inl v2), some (.inl v3), some (.inl v4), some (.inl v5), some (.inl v6), some (.inl v7), none, none]) ⟨.inr rfl, ⟨.inr rfl, ⟨.inr rfl, ⟨.inr rfl, ⟨.inr rfl, ⟨.inr rfl, ⟨.inr rfl, ⟨.inr rfl, ⟨.inl rfl, ⟨.inl rfl, trivial⟩⟩⟩⟩⟩⟩⟩⟩⟩⟩ ?_
      exact gX5_worked_b169 C hk11 _ _ _ _ _ _ _ _ _ _ _ (mc0) (mc0) h
set_option maxRecDepth 100000 in
set_option maxHeartbeats 4000000 in
theorem gX5_worked_b89 {R : (Int32 × ab_S)} (C : ab_C yC p s m args meth c D cA ad cX5_worked 10 RX5 (some .int)) {kk11 : Nat → Int32 → Int32 → Int32 → Int32 → Int32 → Int32 → Int32 → ab_S → Option (Int32 × ab_S)} (hk11 : ∀ (c0 : Nat) (v1 : Int32) (v2 : Int32) (v3 : Int32) (v4 : Int32) (v5 : Int32) (v6 : Int32) (v7 : Int32) (σ : ab_S), c0 < 4 → kk11 c0 v1 v2 v3 v4 v5 v6 v7 σ = some R → ab_G yC p l e s m args below meth c D cA ad 10 1 (some (.inl R.1)) R.2 11 [some (.inr (.inr (23, c0))), some (.inl v1), some (.inl v2), some (.inl v3), some (.inl v4), some (.inl v5), some (.inl v6), some (.inl v7), none, none] [] σ) (c0 : Nat) (v1 : Int32) (v2 : Int32) (v3 : Int32) (v4 : Int32) (v5 : Int32) (v7 : Int32) (t0 : Int32) (σ : ab_S) (mc0 : c0 < 4) (h : fX5_worked_b89 kk11 c0 v1 v2 v3 v4 v5 v7 t0 σ = some R) : ab_G yC p l e s m args below meth c D cA ad 10 1 (some (.inl R.1)) R.2 89 [some (.inr (.inr (23, c0))), some (.inl v1), some (.inl v2), some (.inl v3), some (.inl v4), some (.inl v5), none, some (.inl v7), none, none] [.inl t0] σ := by
  refine ab_istore C dX5_worked_89 (Nat.le_of_ble_eq_true rfl) ?_
  refine ab_goto C (tgt := 215) dX5_worked_91 (by decide) ?_
  refine ab_weak (lv' := [some (.inr (.inr (23, c0))), some (.inl v1), some (.inl v2), some (.inl v3), some (.inl v4), some (.inl v5), some (.inl t0), some (.inl v7), none, none]) ⟨.inr rfl, ⟨.inr rfl, ⟨.inr rfl, ⟨.inr rfl, ⟨.inr rfl, ⟨.inr rfl, ⟨.inr rfl, ⟨.inr rfl, ⟨.inl rfl, ⟨.inl rfl, trivial⟩⟩⟩⟩⟩⟩⟩⟩⟩⟩ ?_
  exact gX5_worked_b215 C hk11 _ _ _ _ _ _ _ _ _ (mc0) h
set_option maxRecDepth 100000 in
set_option maxHeartbeats 4000000 in
theorem gX5_worked_b53 {R : (Int32 × ab_S)} (C : ab_C yC p s m args meth c D cA ad cX5_worked 10 RX5 (some .int)) {kk11 : Nat → Int32 → Int32 → Int32 → Int32 → Int32 → Int32 → Int32 → ab_S → Option (Int32 × ab_S)} (hk11 : ∀ (c0 : Nat) (v1 : Int32) (v2 : Int32) (v3 : Int32) (v4 : Int32) (v5 : Int32) (v6 : Int32) (v7 : Int32) (σ : ab_S), c0 < 4 → kk11 c0 v1 v2 v3 v4 v5 v6 v7 σ = some R → ab_G yC p l e s m args below meth c D cA ad 10 1 (some (.inl R.1)) R.2 11 [some (.inr (.inr (23, c0))), some (.inl v1), some (.inl v2), some (.inl v3), some (.inl v4), some (.inl v5), some (.inl v6), some (.inl v7), none, none] [] σ) (c0 : Nat) (v1 : Int32) (v2 : Int32) (v3 : Int32) (v4 : Int32) (v5 : Int32) (v7 : Int32) (t0 : Int32) (σ : ab_S) (mc0 : c0 < 4) (h : fX5_worked_b53 kk11 c0 v1 v2 v3 v4 v5 v7 t0 σ = some R) : ab_G yC p l e s m args below meth c D cA ad 10 1 (some (.inl R.1)) R.2 53 [some (.inr (.inr (23, c0))), some (.inl v1), some (.inl v2), some (.inl v3), some (.inl v4), some (.inl v5), none, some (.inl v7), none, none] [.inl t0] σ := by
  refine ab_istore C dX5_worked_53 (Nat.le_of_ble_eq_true rfl) ?_
  refine ab_goto C (tgt := 215) dX5_worked_55 (by decide) ?_
  refine ab_weak (lv' := [some (.inr (.inr (23, c0))), some (.inl v1), some (.inl v2), some (.inl v3), some (.inl v4), some (.inl v5), some (.inl t0), some (.inl v7), none, none]) ⟨.inr rfl, ⟨.inr rfl, ⟨.inr rfl, ⟨.inr rfl, ⟨.inr rfl, ⟨.inr rfl, ⟨.inr rfl, ⟨.inr rfl, ⟨.inl rfl, ⟨.inl rfl, trivial⟩⟩⟩⟩⟩⟩⟩⟩⟩⟩ ?_
  exact gX5_worked_b215 C hk11 _ _ _ _ _ _ _ _ _ (mc0) h
set_option maxRecDepth 100000 in
set_option maxHeartbeats 4000000 in
theorem gX5_worked_b11_o {R : (Int32 × ab_S)} (C : ab_C yC p s m args meth c D cA ad cX5_worked 10 RX5 (some .int)) {kk11 : Nat → Int32 → Int32 → Int32 → Int32 → Int32 → Int32 → Int32 → ab_S → Option (Int32 × ab_S)} (hk11 : ∀ (c0 : Nat) (v1 : Int32) (v2 : Int32) (v3 : Int32) (v4 : Int32) (v5 : Int32) (v6 : Int32) (v7 : Int32) (σ : ab_S), c0 < 4 → kk11 c0 v1 v2 v3 v4 v5 v6 v7 σ = some R → ab_G yC p l e s m args below meth c D cA ad 10 1 (some (.inl R.1)) R.2 11 [some (.inr (.inr (23, c0))), some (.inl v1), some (.inl v2), some (.inl v3), some (.inl v4), some (.inl v5), some (.inl v6), some (.inl v7), none, none] [] σ) (c0 : Nat) (v1 : Int32) (v2 : Int32) (v3 : Int32) (v4 : Int32) (v5 : Int32) (v6 : Int32) (v7 : Int32) (σ : ab_S) (mc0 : c0 < 4) (h : fX5_worked_b11_o kk11 c0 v1 v2 v3 v4 v5 v6 v7 σ = some R) : ab_G yC p l e s m args below meth c D cA ad 10 1 (some (.inl R.1)) R.2 11 [some (.inr (.inr (23, c0))), some (.inl v1), some (.inl v2), some (.inl v3), some (.inl v4), some (.inl v5), some (.inl v6), some (.inl v7), none, none] [] σ := by
  refine ab_iload C dX5_worked_11 rfl ?_
  refine ab_aload_n C dX5_worked_13 rfl ?_
  refine ab_getI C dX5_worked_14 flX5_35 rkC_23 rfl (mmC_23 (mc0)) ?_
  refine ab_icmp_ge C (tgt := 221) dX5_worked_17 (by decide) (fun hc1 => ?_) (fun hc1 => ?_)
  · replace h := ab_pos hc1 h
    refine ab_weak (lv' := [none, none, none, none, none, none, none, none, none, none]) ⟨.inl rfl, ⟨.inl rfl, ⟨.inl rfl, ⟨.inl rfl, ⟨.inl rfl, ⟨.inl rfl, ⟨.inl rfl, ⟨.inl rfl, ⟨.inl rfl, ⟨.inl rfl, trivial⟩⟩⟩⟩⟩⟩⟩⟩⟩⟩ ?_
    exact gX5_worked_b221 C _ h
  · replace h := ab_neg hc1 h
    refine ab_iload C dX5_worked_20 rfl ?_
    refine ab_bipush C dX5_worked_22 (v := 121) rfl ?_
    refine ab_icmp_ge C (tgt := 221) dX5_worked_24 (by decide) (fun hc2 => ?_) (fun hc2 => ?_)
    · replace h := ab_pos hc2 h
      refine ab_weak (lv' := [none, none, none, none, none, none, none, none, none, none]) ⟨.inl rfl, ⟨.inl rfl, ⟨.inl rfl, ⟨.inl rfl, ⟨.inl rfl, ⟨.inl rfl, ⟨.inl rfl, ⟨.inl rfl, ⟨.inl rfl, ⟨.inl rfl, trivial⟩⟩⟩⟩⟩⟩⟩⟩⟩⟩ ?_
      exact gX5_worked_b221 C _ h
    · replace h := ab_neg hc2 h
      refine ab_aload_n C dX5_worked_27 rfl ?_
      refine ab_getR C dX5_worked_28 flX5_11 rkC_23 rfl (mmC_23 (mc0)) ?_
      refine ab_iload C dX5_worked_31 rfl ?_
      obtain ⟨hg3, h⟩ := ab_grd h
      refine ab_iald C dX5_worked_33 rkC_24 (mmC_24 (mc0)) hg3 ?_
      refine ab_istore C dX5_worked_34 (Nat.le_of_ble_eq_true rfl) ?_
      refine ab_iload C dX5_worked_36 rfl ?_
      refine ab_if_eq C (tgt := 58) dX5_worked_38 (by decide) (fun hc4 => ?_) (fun hc4 => ?_)
      · replace h := ab_pos hc4 h
        refine ab_iload C dX5_worked_58 rfl ?_
        refine ab_bipush C dX5_worked_60 (v := 59) rfl ?_
        refine ab_icmp_ne C (tgt := 70) dX5_worked_62 (by decide) (fun hc5 => ?_) (fun hc5 => ?_)
        · replace h := ab_neg hc5 h
          refine ab_iload C dX5_worked_70 rfl ?_
          refine ab_bipush C dX5_worked_72 (v := 63) rfl ?_
          refine ab_icmp_ne C (tgt := 94) dX5_worked_74 (by decide) (fun hc6 => ?_) (fun hc6 => ?_)
          · replace h := ab_neg hc6 h
            refine ab_iload C dX5_worked_94 rfl ?_
            refine ab_sipush C dX5_worked_96 (v := 1000) rfl ?_
            refine ab_icmp_lt C (tgt := 115) dX5_worked_99 (by decide) (fun hc7 => ?_) (fun hc7 => ?_)
            · replace h := ab_pos hc7 h
              refine ab_iload C dX5_worked_115 rfl ?_
              refine ab_bipush C dX5_worked_117 (v := 97) rfl ?_
              refine ab_icmp_lt C (tgt := 149) dX5_worked_119 (by decide) (fun hc8 => ?_) (fun hc8 => ?_)
              · replace h := ab_pos hc8 h
                refine ab_weak (lv' := [some (.inr (.inr (23, c0))), some (.inl v1), some (.inl v2), some (.inl v3), some (.inl v4), some (.inl v5), some (.inl v6), some (.inl v7), some (.inl (σ.1 24 c0 v7.toNatClampNeg)), none]) ⟨.inr rfl, ⟨.inr rfl, ⟨.inr rfl, ⟨.inr rfl, ⟨.inr rfl, ⟨.inr rfl, ⟨.inr rfl, ⟨.inr rfl, ⟨.inr rfl, ⟨.inl rfl, trivial⟩⟩⟩⟩⟩⟩⟩⟩⟩⟩ ?_
                exact gX5_worked_b149 C hk11 _ _ _ _ _ _ _ _ _ _ (mc0) h
              · replace h := ab_neg hc8 h
                refine ab_iload C dX5_worked_122 rfl ?_
                refine ab_bipush C dX5_worked_124 (v := 122) rfl ?_
                refine ab_icmp_gt C (tgt := 149) dX5_worked_126 (by decide) (fun hc9 => ?_) (fun hc9 => ?_)
                · replace h := ab_pos hc9 h
                  refine ab_weak (lv' := [some (.inr (.inr (23, c0))), some (.inl v1), some (.inl v2), some (.inl v3), some (.inl v4), some (.inl v5), some (.inl v6), some (.inl v7), some (.inl (σ.1 24 c0 v7.toNatClampNeg)), none]) ⟨.inr rfl, ⟨.inr rfl, ⟨.inr rfl, ⟨.inr rfl, ⟨.inr rfl, ⟨.inr rfl, ⟨.inr rfl, ⟨.inr rfl, ⟨.inr rfl, ⟨.inl rfl, trivial⟩⟩⟩⟩⟩⟩⟩⟩⟩⟩ ?_
                  exact gX5_worked_b149 C hk11 _ _ _ _ _ _ _ _ _ _ (mc0) h
                · replace h := ab_neg hc9 h
                  refine ab_aload_n C dX5_worked_129 rfl ?_
                  refine ab_aload_n C dX5_worked_130 rfl ?_
                  refine ab_iload C dX5_worked_131 rfl ?_
                  refine ab_iload_n C dX5_worked_133 rfl ?_
                  refine ab_iload_n C dX5_worked_134 rfl ?_
                  refine ab_iload_n C dX5_worked_135 rfl ?_
                  refine ab_iload C dX5_worked_136 rfl ?_
                  refine ab_iload C dX5_worked_138 rfl ?_
                  obtain ⟨q10, hq10, h⟩ := ab_bind h
                  refine ab_inv1 C dX5_worked_140 mlX5_85 yvX5_named rkC_23 ⟨_, _, rfl⟩ (mmC_23 (mc0)) (tX5_named l _ _ _ _ _ _ _ _ (mc0) hq10) (Nat.le_of_ble_eq_true rfl) (Nat.le_of_ble_eq_true rfl) rfl (Nat.le_of_ble_eq_true rfl) ?_
                  obtain ⟨q11, hq11, h⟩ := ab_bind h
                  refine ab_inv0 C dX5_worked_143 mlX5_81 yvX5_push rkC_23 ⟨_, _, rfl⟩ (mmC_23 (mc0)) (tX5_push l _ _ _ (mc0) hq11) (Nat.le_of_ble_eq_true rfl) (Nat.le_of_ble_eq_true rfl) rfl (Nat.le_of_ble_eq_true rfl) ?_
                  refine ab_goto C (tgt := 215) dX5_worked_146 (by decide) ?_
                  refine ab_weak (lv' := [some (.inr (.inr (23, c0))), some (.inl v1), some (.inl v2), some (.inl v3), some (.inl v4), some (.inl v5), some (.inl v6), some (.inl v7), none, none]) ⟨.inr rfl, ⟨.inr rfl, ⟨.inr rfl, ⟨.inr rfl, ⟨.inr rfl, ⟨.inr rfl, ⟨.inr rfl, ⟨.inr rfl, ⟨.inl rfl, ⟨.inl rfl, trivial⟩⟩⟩⟩⟩⟩⟩⟩⟩⟩ ?_
                  exact gX5_worked_b215 C hk11 _ _ _ _ _ _ _ _ _ (mc0) h
            · replace h := ab_neg hc7 h
              refine ab_aload_n C dX5_worked_102 rfl ?_
              refine ab_iload C dX5_worked_103 rfl ?_
              refine ab_sipush C dX5_worked_105 (v := 1000) rfl ?_
              refine ab_isub C dX5_worked_108  ?_
              obtain ⟨q12, hq12, h⟩ := ab_bind h
              refine ab_inv0 C dX5_worked_109 mlX5_81 yvX5_push rkC_23 ⟨_, _, rfl⟩ (mmC_23 (mc0)) (tX5_push l _ _ _ (mc0) hq12) (Nat.le_of_ble_eq_true rfl) (Nat.le_of_ble_eq_true rfl) rfl (Nat.le_of_ble_eq_true rfl) ?_
              refine ab_goto C (tgt := 215) dX5_worked_112 (by decide) ?_
              refine ab_weak (lv' := [some (.inr (.inr (23, c0))), some (.inl v1), some (.inl v2), some (.inl v3), some (.inl v4), some (.inl v5), some (.inl v6), some (.inl v7), none, none]) ⟨.inr rfl, ⟨.inr rfl, ⟨.inr rfl, ⟨.inr rfl, ⟨.inr rfl, ⟨.inr rfl, ⟨.inr rfl, ⟨.inr rfl, ⟨.inl rfl, ⟨.inl rfl, trivial⟩⟩⟩⟩⟩⟩⟩⟩⟩⟩ ?_
              exact gX5_worked_b215 C hk11 _ _ _ _ _ _ _ _ _ (mc0) h
          · replace h := ab_pos hc6 h
            refine ab_aload_n C dX5_worked_77 rfl ?_
            obtain ⟨q13, hq13, h⟩ := ab_bind h
            refine ab_inv1 C dX5_worked_78 mlX5_77 yvX5_pop rkC_23 ⟨_, _, rfl⟩ (mmC_23 (mc0)) (tX5_pop l _ _ (mc0) hq13) (Nat.le_of_ble_eq_true rfl) (Nat.le_of_ble_eq_true rfl) rfl (Nat.le_of_ble_eq_true rfl) ?_
            refine ab_if_ne C (tgt := 88) dX5_worked_81 (by decide) (fun hc14 => ?_) (fun hc14 => ?_)
            · replace h := ab_neg hc14 h
              refine ab_iconst C dX5_worked_88 (v := 0) rfl ?_
              refine ab_weak (lv' := [some (.inr (.inr (23, c0))), some (.inl v1), some (.inl v2), some (.inl v3), some (.inl v4), some (.inl v5), none, some (.inl v7), none, none]) ⟨.inr rfl, ⟨.inr rfl, ⟨.inr rfl, ⟨.inr rfl, ⟨.inr rfl, ⟨.inr rfl, ⟨.inl rfl, ⟨.inr rfl, ⟨.inl rfl, ⟨.inl rfl, trivial⟩⟩⟩⟩⟩⟩⟩⟩⟩⟩ ?_
              exact gX5_worked_b89 C hk11 _ _ _ _ _ _ _ _ _ (mc0) h
            · replace h := ab_pos hc14 h
              refine ab_iconst C dX5_worked_84 (v := 1) rfl ?_
              refine ab_goto C (tgt := 89) dX5_worked_85 (by decide) ?_
              refine ab_weak (lv' := [some (.inr (.inr (23, c0))), some (.inl v1), some (.inl v2), some (.inl v3), some (.inl v4), some (.inl v5), none, some (.inl v7), none, none]) ⟨.inr rfl, ⟨.inr rfl, ⟨.inr rfl, ⟨.inr rfl, ⟨.inr rfl, ⟨.inr rfl, ⟨.inl rfl, ⟨.inr rfl, ⟨.inl rfl, ⟨.inl rfl, trivial⟩⟩⟩⟩⟩⟩⟩⟩⟩⟩ ?_
              exact gX5_worked_b89 C hk11 _ _ _ _ _ _ _ _ _ (mc0) h
        · replace h := ab_pos hc5 h
          refine ab_aload_n C dX5_worked_65 rfl ?_
          obtain ⟨q15, hq15, h⟩ := ab_bind h
          refine ab_inv1 C dX5_worked_66 mlX5_77 yvX5_pop rkC_23 ⟨_, _, rfl⟩ (mmC_23 (mc0)) (tX5_pop l _ _ (mc0) hq15) (Nat.le_of_ble_eq_true rfl) (Nat.le_of_ble_eq_true rfl) rfl (Nat.le_of_ble_eq_true rfl) ?_
          obtain rfl := Option.some.inj h
          exact ab_iret C dX5_worked_69
      · replace h := ab_neg hc4 h
        refine ab_iload C dX5_worked_41 rfl ?_
        refine ab_bipush C dX5_worked_43 (v := 59) rfl ?_
        refine ab_icmp_eq C (tgt := 52) dX5_worked_45 (by decide) (fun hc16 => ?_) (fun hc16 => ?_)
        · replace h := ab_pos hc16 h
          refine ab_iconst C dX5_worked_52 (v := 0) rfl ?_
          refine ab_weak (lv' := [some (.inr (.inr (23, c0))), some (.inl v1), some (.inl v2), some (.inl v3), some (.inl v4), some (.inl v5), none, some (.inl v7), none, none]) ⟨.inr rfl, ⟨.inr rfl, ⟨.inr rfl, ⟨.inr rfl, ⟨.inr rfl, ⟨.inr rfl, ⟨.inl rfl, ⟨.inr rfl, ⟨.inl rfl, ⟨.inl rfl, trivial⟩⟩⟩⟩⟩⟩⟩⟩⟩⟩ ?_
          exact gX5_worked_b53 C hk11 _ _ _ _ _ _ _ _ _ (mc0) h
        · replace h := ab_neg hc16 h
          refine ab_iconst C dX5_worked_48 (v := 1) rfl ?_
          refine ab_goto C (tgt := 53) dX5_worked_49 (by decide) ?_
          refine ab_weak (lv' := [some (.inr (.inr (23, c0))), some (.inl v1), some (.inl v2), some (.inl v3), some (.inl v4), some (.inl v5), none, some (.inl v7), none, none]) ⟨.inr rfl, ⟨.inr rfl, ⟨.inr rfl, ⟨.inr rfl, ⟨.inr rfl, ⟨.inr rfl, ⟨.inl rfl, ⟨.inr rfl, ⟨.inl rfl, ⟨.inl rfl, trivial⟩⟩⟩⟩⟩⟩⟩⟩⟩⟩ ?_
          exact gX5_worked_b53 C hk11 _ _ _ _ _ _ _ _ _ (mc0) h
theorem gX5_worked_b11 {R : (Int32 × ab_S)} (C : ab_C yC p s m args meth c D cA ad cX5_worked 10 RX5 (some .int)) : ∀ (j : Nat) (c0 : Nat) (v1 : Int32) (v2 : Int32) (v3 : Int32) (v4 : Int32) (v5 : Int32) (v6 : Int32) (v7 : Int32) (σ : ab_S), c0 < 4 → fX5_worked_b11 j c0 v1 v2 v3 v4 v5 v6 v7 σ = some R → ab_G yC p l e s m args below meth c D cA ad 10 1 (some (.inl R.1)) R.2 11 [some (.inr (.inr (23, c0))), some (.inl v1), some (.inl v2), some (.inl v3), some (.inl v4), some (.inl v5), some (.inl v6), some (.inl v7), none, none] [] σ := by
  intro j
  induction j with
  | zero => intro c0 v1 v2 v3 v4 v5 v6 v7 σ hh0 h; cases h
  | succ j ih => intro c0 v1 v2 v3 v4 v5 v6 v7 σ hh0 h; exact gX5_worked_b11_o C ih _ _ _ _ _ _ _ _ _ hh0 h
set_option maxRecDepth 100000 in
set_option maxHeartbeats 4000000 in
theorem tX5_worked (l : Launch) (k0 : Nat) (x1 : Int32) (x2 : Int32) (x3 : Int32) (x4 : Int32) (x5 : Int32) (σ : ab_S) (hk0 : k0 < 4) {R : (Int32 × ab_S)} (h : fX5_worked k0 x1 x2 x3 x4 x5 σ = some R) : ab_M l yC yX5_worked cX5_worked 10 (some .int) 1 [.inr (.inr (23, k0)), .inl x1, .inl x2, .inl x3, .inl x4, .inl x5] σ (some (.inl R.1)) R.2 := by
  refine ab_M_intro ndC (by decide) (Nat.le_of_ble_eq_true rfl) ?_
  intro p e s m args below meth c D cA ad C
  have C : ab_C yC p s m args meth c D cA ad cX5_worked 10 RX5 (some .int) := C
  refine ab_weak (lv' := [some (.inr (.inr (23, k0))), some (.inl x1), some (.inl x2), some (.inl x3), some (.inl x4), some (.inl x5), none, none, none, none]) ⟨.inr rfl, ⟨.inr rfl, ⟨.inr rfl, ⟨.inr rfl, ⟨.inr rfl, ⟨.inr rfl, ⟨.inl rfl, ⟨.inl rfl, ⟨.inl rfl, ⟨.inl rfl, trivial⟩⟩⟩⟩⟩⟩⟩⟩⟩⟩ ?_
  refine ab_aload_n C dX5_worked_0 rfl ?_
  refine ab_iconst C dX5_worked_1 (v := 0) rfl ?_
  refine ab_putI C dX5_worked_2 fpX5_74 rkC_23 rfl (mmC_23 (hk0)) rfl rfl ?_
  refine ab_nmS (fun σ1 eσ1 => ?_)
  replace h := ab_kh eσ1 h
  refine ab_iconst C dX5_worked_5 (v := 0) rfl ?_
  refine ab_istore C dX5_worked_6 (Nat.le_of_ble_eq_true rfl) ?_
  refine ab_iconst C dX5_worked_8 (v := 0) rfl ?_
  refine ab_istore C dX5_worked_9 (Nat.le_of_ble_eq_true rfl) ?_
  refine ab_weak (lv' := [some (.inr (.inr (23, k0))), some (.inl x1), some (.inl x2), some (.inl x3), some (.inl x4), some (.inl x5), some (.inl 0), some (.inl 0), none, none]) ⟨.inr rfl, ⟨.inr rfl, ⟨.inr rfl, ⟨.inr rfl, ⟨.inr rfl, ⟨.inr rfl, ⟨.inr rfl, ⟨.inr rfl, ⟨.inl rfl, ⟨.inl rfl, trivial⟩⟩⟩⟩⟩⟩⟩⟩⟩⟩ ?_
  exact gX5_worked_b11 C ab_N _ _ _ _ _ _ _ _ _ (hk0) h
end
def fX5_twelfths_b48 (c0 : Nat) (v1 : Int32) (v2 : Int32) (v3 : Int32) (v4 : Int32) (v5 : Int32) (σ : ab_S) : Option (Int32 × ab_S) := (fX5_worked c0 v1 v2 v3 v4 v5 σ).bind fun q1 => (fX5_held q1.1).bind fun q2 => some (q2, q1.2)
def fX5_twelfths_b97 (c0 : Nat) (v6 : Int32) (σ : ab_S) : Option (Int32 × ab_S) := (if ab_inb v6 750 = true then some ((σ.1 26 c0 v6.toNatClampNeg) - 1, σ) else none)
def fX5_twelfths_b20 (t0 : Int32) (σ : ab_S) : Option (Int32 × ab_S) := some (t0, σ)
def fX5_twelfths (k0 : Nat) (x1 : Int32) (x2 : Int32) (x3 : Int32) (x4 : Int32) (x5 : Int32) (σ : ab_S) : Option (Int32 × ab_S) := (if (σ.1 23 k0 5) = 0 then (if x4 = x5 then fX5_twelfths_b20 0 σ else fX5_twelfths_b20 12 σ) else (fX5_seatOf x1 x2 x3 x4 x5).bind fun q2 => (if q2 < 0 then fX5_twelfths_b48 k0 x1 x2 x3 x4 x5 σ else (if q2 < (Int32.ofNat 750) then (if ab_inb q2 750 = true then (if (σ.1 26 k0 q2.toNatClampNeg) = 0 then (fX5_worked k0 x1 x2 x3 x4 x5 σ).bind fun q7 => (fX5_held q7.1).bind fun q8 => (if ab_inb q2 750 = true then ab_k (ab_si q7.2 26 k0 q2.toNatClampNeg (vp_nar .byte ((1 + q8 : Int32).toInt8.toInt32))) fun σ10 => fX5_twelfths_b97 k0 q2 σ10 else none) else fX5_twelfths_b97 k0 q2 σ) else none) else fX5_twelfths_b48 k0 x1 x2 x3 x4 x5 σ)))
section
variable {p : Program} {l : Launch} {e : Env} {s : State} {m : MethodId} {args : Array Value} {below : List Frame} {meth : Method} {c : Code} {D : va_G} {cA : Nat → ClassId} {ad : Nat → Nat → Nat}
set_option maxRecDepth 100000 in
set_option maxHeartbeats 4000000 in
theorem gX5_twelfths_b48 {R : (Int32 × ab_S)} (C : ab_C yC p s m args meth c D cA ad cX5_twelfths 7 RX5 (some .int)) (c0 : Nat) (v1 : Int32) (v2 : Int32) (v3 : Int32) (v4 : Int32) (v5 : Int32) (σ : ab_S) (mc0 : c0 < 4) (h : fX5_twelfths_b48 c0 v1 v2 v3 v4 v5 σ = some R) : ab_G yC p l e s m args below meth c D cA ad 7 2 (some (.inl R.1)) R.2 48 [some (.inr (.inr (23, c0))), some (.inl v1), some (.inl v2), some (.inl v3), some (.inl v4), some (.inl v5), none] [] σ := by
  refine ab_aload_n C dX5_twelfths_48 rfl ?_
  refine ab_iload_n C dX5_twelfths_49 rfl ?_
  refine ab_iload_n C dX5_twelfths_50 rfl ?_
  refine ab_iload_n C dX5_twelfths_51 rfl ?_
  refine ab_iload C dX5_twelfths_52 rfl ?_
  refine ab_iload C dX5_twelfths_54 rfl ?_
  obtain ⟨q1, hq1, h⟩ := ab_bind h
  refine ab_inv1 C dX5_twelfths_56 mlX5_58 yvX5_worked rkC_23 ⟨_, _, rfl⟩ (mmC_23 (mc0)) (tX5_worked l _ _ _ _ _ _ _ (mc0) hq1) (Nat.le_of_ble_eq_true rfl) (Nat.le_of_ble_eq_true rfl) rfl (Nat.le_of_ble_eq_true rfl) ?_
  obtain ⟨q2, hq2, h⟩ := ab_bind h
  refine ab_invS1 C dX5_twelfths_59 mlX5_61 ysX5_held (tX5_held l _ _ hq2) (Nat.le_of_ble_eq_true rfl) (Nat.le_of_ble_eq_true rfl) rfl (Nat.le_of_ble_eq_true rfl) ?_
  obtain rfl := Option.some.inj h
  exact ab_iret C dX5_twelfths_62
set_option maxRecDepth 100000 in
set_option maxHeartbeats 4000000 in
theorem gX5_twelfths_b97 {R : (Int32 × ab_S)} (C : ab_C yC p s m args meth c D cA ad cX5_twelfths 7 RX5 (some .int)) (c0 : Nat) (v6 : Int32) (σ : ab_S) (mc0 : c0 < 4) (h : fX5_twelfths_b97 c0 v6 σ = some R) : ab_G yC p l e s m args below meth c D cA ad 7 2 (some (.inl R.1)) R.2 97 [some (.inr (.inr (23, c0))), none, none, none, none, none, some (.inl v6)] [] σ := by
  refine ab_aload_n C dX5_twelfths_97 rfl ?_
  refine ab_getR C dX5_twelfths_98 flX5_18 rkC_23 rfl (mmC_23 (mc0)) ?_
  refine ab_iload C dX5_twelfths_101 rfl ?_
  obtain ⟨hg1, h⟩ := ab_grd h
  refine ab_bald C dX5_twelfths_103 rkC_26 (mmC_26 (mc0)) hg1 ?_
  refine ab_iconst C dX5_twelfths_104 (v := 1) rfl ?_
  refine ab_isub C dX5_twelfths_105  ?_
  obtain rfl := Option.some.inj h
  exact ab_iret C dX5_twelfths_106
set_option maxRecDepth 100000 in
set_option maxHeartbeats 4000000 in
theorem gX5_twelfths_b20 {R : (Int32 × ab_S)} (C : ab_C yC p s m args meth c D cA ad cX5_twelfths 7 RX5 (some .int)) (t0 : Int32) (σ : ab_S) (h : fX5_twelfths_b20 t0 σ = some R) : ab_G yC p l e s m args below meth c D cA ad 7 2 (some (.inl R.1)) R.2 20 [none, none, none, none, none, none, none] [.inl t0] σ := by
  obtain rfl := Option.some.inj h
  exact ab_iret C dX5_twelfths_20
set_option maxRecDepth 100000 in
set_option maxHeartbeats 4000000 in
theorem tX5_twelfths (l : Launch) (k0 : Nat) (x1 : Int32) (x2 : Int32) (x3 : Int32) (x4 : Int32) (x5 : Int32) (σ : ab_S) (hk0 : k0 < 4) {R : (Int32 × ab_S)} (h : fX5_twelfths k0 x1 x2 x3 x4 x5 σ = some R) : ab_M l yC yX5_twelfths cX5_twelfths 7 (some .int) 2 [.inr (.inr (23, k0)), .inl x1, .inl x2, .inl x3, .inl x4, .inl x5] σ (some (.inl R.1)) R.2 := by
  refine ab_M_intro ndC (by decide) (Nat.le_of_ble_eq_true rfl) ?_
  intro p e s m args below meth c D cA ad C
  have C : ab_C yC p s m args meth c D cA ad cX5_twelfths 7 RX5 (some .int) := C
  refine ab_weak (lv' := [some (.inr (.inr (23, k0))), some (.inl x1), some (.inl x2), some (.inl x3), some (.inl x4), some (.inl x5), none]) ⟨.inr rfl, ⟨.inr rfl, ⟨.inr rfl, ⟨.inr rfl, ⟨.inr rfl, ⟨.inr rfl, ⟨.inl rfl, trivial⟩⟩⟩⟩⟩⟩⟩ ?_
  refine ab_aload_n C dX5_twelfths_0 rfl ?_
  refine ab_getI C dX5_twelfths_1 flX5_38 rkC_23 rfl (mmC_23 (hk0)) ?_
  refine ab_if_ne C (tgt := 21) dX5_twelfths_4 (by decide) (fun hc1 => ?_) (fun hc1 => ?_)
  · replace h := ab_neg hc1 h
    refine ab_iload_n C dX5_twelfths_21 rfl ?_
    refine ab_iload_n C dX5_twelfths_22 rfl ?_
    refine ab_iload_n C dX5_twelfths_23 rfl ?_
    refine ab_iload C dX5_twelfths_24 rfl ?_
    refine ab_iload C dX5_twelfths_26 rfl ?_
    obtain ⟨q2, hq2, h⟩ := ab_bind h
    refine ab_invS1 C dX5_twelfths_28 mlX5_54 ysX5_seatOf (tX5_seatOf l _ _ _ _ _ _ hq2) (Nat.le_of_ble_eq_true rfl) (Nat.le_of_ble_eq_true rfl) rfl (Nat.le_of_ble_eq_true rfl) ?_
    refine ab_istore C dX5_twelfths_31 (Nat.le_of_ble_eq_true rfl) ?_
    refine ab_iload C dX5_twelfths_33 rfl ?_
    refine ab_if_lt C (tgt := 48) dX5_twelfths_35 (by decide) (fun hc3 => ?_) (fun hc3 => ?_)
    · replace h := ab_pos hc3 h
      refine ab_weak (lv' := [some (.inr (.inr (23, k0))), some (.inl x1), some (.inl x2), some (.inl x3), some (.inl x4), some (.inl x5), none]) ⟨.inr rfl, ⟨.inr rfl, ⟨.inr rfl, ⟨.inr rfl, ⟨.inr rfl, ⟨.inr rfl, ⟨.inl rfl, trivial⟩⟩⟩⟩⟩⟩⟩ ?_
      exact gX5_twelfths_b48 C _ _ _ _ _ _ _ (hk0) h
    · replace h := ab_neg hc3 h
      refine ab_iload C dX5_twelfths_38 rfl ?_
      refine ab_aload_n C dX5_twelfths_40 rfl ?_
      refine ab_getR C dX5_twelfths_41 flX5_18 rkC_23 rfl (mmC_23 (hk0)) ?_
      refine ab_alen C dX5_twelfths_44 rkC_26 (Nat.le_of_ble_eq_true rfl) (mmC_26 (hk0)) ?_
      refine ab_icmp_lt C (tgt := 63) dX5_twelfths_45 (by decide) (fun hc4 => ?_) (fun hc4 => ?_)
      · replace h := ab_pos hc4 h
        refine ab_aload_n C dX5_twelfths_63 rfl ?_
        refine ab_getR C dX5_twelfths_64 flX5_18 rkC_23 rfl (mmC_23 (hk0)) ?_
        refine ab_iload C dX5_twelfths_67 rfl ?_
        obtain ⟨hg5, h⟩ := ab_grd h
        refine ab_bald C dX5_twelfths_69 rkC_26 (mmC_26 (hk0)) hg5 ?_
        refine ab_if_ne C (tgt := 97) dX5_twelfths_70 (by decide) (fun hc6 => ?_) (fun hc6 => ?_)
        · replace h := ab_neg hc6 h
          refine ab_weak (lv' := [some (.inr (.inr (23, k0))), none, none, none, none, none, some (.inl q2)]) ⟨.inr rfl, ⟨.inl rfl, ⟨.inl rfl, ⟨.inl rfl, ⟨.inl rfl, ⟨.inl rfl, ⟨.inr rfl, trivial⟩⟩⟩⟩⟩⟩⟩ ?_
          exact gX5_twelfths_b97 C _ _ _ (hk0) h
        · replace h := ab_pos hc6 h
          refine ab_aload_n C dX5_twelfths_73 rfl ?_
          refine ab_getR C dX5_twelfths_74 flX5_18 rkC_23 rfl (mmC_23 (hk0)) ?_
          refine ab_iload C dX5_twelfths_77 rfl ?_
          refine ab_iconst C dX5_twelfths_79 (v := 1) rfl ?_
          refine ab_aload_n C dX5_twelfths_80 rfl ?_
          refine ab_iload_n C dX5_twelfths_81 rfl ?_
          refine ab_iload_n C dX5_twelfths_82 rfl ?_
          refine ab_iload_n C dX5_twelfths_83 rfl ?_
          refine ab_iload C dX5_twelfths_84 rfl ?_
          refine ab_iload C dX5_twelfths_86 rfl ?_
          obtain ⟨q7, hq7, h⟩ := ab_bind h
          refine ab_inv1 C dX5_twelfths_88 mlX5_58 yvX5_worked rkC_23 ⟨_, _, rfl⟩ (mmC_23 (hk0)) (tX5_worked l _ _ _ _ _ _ _ (hk0) hq7) (Nat.le_of_ble_eq_true rfl) (Nat.le_of_ble_eq_true rfl) rfl (Nat.le_of_ble_eq_true rfl) ?_
          obtain ⟨q8, hq8, h⟩ := ab_bind h
          refine ab_invS1 C dX5_twelfths_91 mlX5_61 ysX5_held (tX5_held l _ _ hq8) (Nat.le_of_ble_eq_true rfl) (Nat.le_of_ble_eq_true rfl) rfl (Nat.le_of_ble_eq_true rfl) ?_
          refine ab_iadd C dX5_twelfths_94  ?_
          refine ab_i2b C dX5_twelfths_95  ?_
          obtain ⟨hg9, h⟩ := ab_grd h
          refine ab_bast C dX5_twelfths_96 rkC_26 (mmC_26 (hk0)) hg9 ?_
          refine ab_nmS (fun σ10 eσ10 => ?_)
          replace h := ab_kh eσ10 h
          refine ab_weak (lv' := [some (.inr (.inr (23, k0))), none, none, none, none, none, some (.inl q2)]) ⟨.inr rfl, ⟨.inl rfl, ⟨.inl rfl, ⟨.inl rfl, ⟨.inl rfl, ⟨.inl rfl, ⟨.inr rfl, trivial⟩⟩⟩⟩⟩⟩⟩ ?_
          exact gX5_twelfths_b97 C _ _ _ (hk0) h
      · replace h := ab_neg hc4 h
        refine ab_weak (lv' := [some (.inr (.inr (23, k0))), some (.inl x1), some (.inl x2), some (.inl x3), some (.inl x4), some (.inl x5), none]) ⟨.inr rfl, ⟨.inr rfl, ⟨.inr rfl, ⟨.inr rfl, ⟨.inr rfl, ⟨.inr rfl, ⟨.inl rfl, trivial⟩⟩⟩⟩⟩⟩⟩ ?_
        exact gX5_twelfths_b48 C _ _ _ _ _ _ _ (hk0) h
  · replace h := ab_pos hc1 h
    refine ab_iload C dX5_twelfths_7 rfl ?_
    refine ab_iload C dX5_twelfths_9 rfl ?_
    refine ab_icmp_ne C (tgt := 18) dX5_twelfths_11 (by decide) (fun hc11 => ?_) (fun hc11 => ?_)
    · replace h := ab_neg hc11 h
      refine ab_bipush C dX5_twelfths_18 (v := 12) rfl ?_
      refine ab_weak (lv' := [none, none, none, none, none, none, none]) ⟨.inl rfl, ⟨.inl rfl, ⟨.inl rfl, ⟨.inl rfl, ⟨.inl rfl, ⟨.inl rfl, ⟨.inl rfl, trivial⟩⟩⟩⟩⟩⟩⟩ ?_
      exact gX5_twelfths_b20 C _ _ h
    · replace h := ab_pos hc11 h
      refine ab_iconst C dX5_twelfths_14 (v := 0) rfl ?_
      refine ab_goto C (tgt := 20) dX5_twelfths_15 (by decide) ?_
      refine ab_weak (lv' := [none, none, none, none, none, none, none]) ⟨.inl rfl, ⟨.inl rfl, ⟨.inl rfl, ⟨.inl rfl, ⟨.inl rfl, ⟨.inl rfl, ⟨.inl rfl, trivial⟩⟩⟩⟩⟩⟩⟩ ?_
      exact gX5_twelfths_b20 C _ _ h
end
def fX1_look_b116 (kk30 : Nat → Int32 → Int32 → Int32 → Int64 → Int32 → Nat → Nat → Int32 → Int32 → ab_S → Option (Int32 × ab_S)) (c1 : Nat) (v2 : Int32) (v4 : Int32) (v5 : Int32) (v6 : Int64) (v8 : Int32) (c9 : Nat) (c10 : Nat) (v11 : Int32) (v12 : Int32) (σ : ab_S) : Option (Int32 × ab_S) := kk30 c1 v2 v4 v5 v6 v8 c9 c10 v11 (v12 + 1) σ
def fX1_look_b88 (kk30 : Nat → Int32 → Int32 → Int32 → Int64 → Int32 → Nat → Nat → Int32 → Int32 → ab_S → Option (Int32 × ab_S)) (c1 : Nat) (v2 : Int32) (v4 : Int32) (v5 : Int32) (v6 : Int64) (v8 : Int32) (c9 : Nat) (c10 : Nat) (v11 : Int32) (v12 : Int32) (v13 : Int64) (v15 : Int32) (σ : ab_S) : Option (Int32 × ab_S) := (if ab_inb v12 5 = true then ab_k (ab_sl σ 29 c10 v12.toNatClampNeg ((v13 * ((v15 : Int32).toInt64)) * v6)) fun σ2 => (if ab_inb v12 5 = true then ab_k (ab_sl σ2 31 c9 v12.toNatClampNeg (v13 * ((12 - v15 : Int32).toInt64))) fun σ4 => fX1_look_b116 kk30 c1 v2 v4 v5 v6 v8 c9 c10 v11 v12 σ4 else none) else none)
def fX1_look_b30_o (kk30 : Nat → Int32 → Int32 → Int32 → Int64 → Int32 → Nat → Nat → Int32 → Int32 → ab_S → Option (Int32 × ab_S)) (c1 : Nat) (v2 : Int32) (v4 : Int32) (v5 : Int32) (v6 : Int64) (v8 : Int32) (c9 : Nat) (c10 : Nat) (v11 : Int32) (v12 : Int32) (σ : ab_S) : Option (Int32 × ab_S) := (if (σ.1 1 0 3) ≤ v12 then (if ab_isb v11 = true then some (v11, σ) else none) else (if ab_inb v12 5 = true then (if ab_inb v12 5 = true then ab_k (ab_sl σ 29 c10 v12.toNatClampNeg 0) fun σ5 => (if (lg_cmp (σ.2 31 c9 v12.toNatClampNeg) 0) = 0 then fX1_look_b116 kk30 c1 v2 v4 v5 v6 v8 c9 c10 v11 v12 σ5 else (fX5_twelfths c1 v2 v8 v4 v5 v12 σ5).bind fun q7 => (if q7.1 = 0 then fX1_look_b88 kk30 c1 v2 v4 v5 v6 v8 c9 c10 v11 v12 (σ.2 31 c9 v12.toNatClampNeg) q7.1 q7.2 else fX1_look_b88 kk30 c1 v2 v4 v5 v6 v8 c9 c10 1 v12 (σ.2 31 c9 v12.toNatClampNeg) q7.1 q7.2)) else none) else none))
def fX1_look_b30 : Nat → Nat → Int32 → Int32 → Int32 → Int64 → Int32 → Nat → Nat → Int32 → Int32 → ab_S → Option (Int32 × ab_S)
  | 0 => fun _ _ _ _ _ _ _ _ _ _ _ => none
  | n + 1 => fX1_look_b30_o  (fX1_look_b30 n)
def fX1_look (k1 : Nat) (x2 : Int32) (x3 : Int32) (x4 : Int32) (x5 : Int32) (x6 : Int64) (σ : ab_S) : Option (Int32 × ab_S) := (fJ6_bitCount_0f7a4 x3).bind fun q1 => (if ab_inb x2 3 = true then (if ab_inb (x2 + 1) 4 = true then fX1_look_b30 ab_N k1 x2 x4 x5 x6 q1 x2.toNatClampNeg ((x2 + 1).toNatClampNeg) 0 0 σ else none) else none)
section
variable {p : Program} {l : Launch} {e : Env} {s : State} {m : MethodId} {args : Array Value} {below : List Frame} {meth : Method} {c : Code} {D : va_G} {cA : Nat → ClassId} {ad : Nat → Nat → Nat}
set_option maxRecDepth 100000 in
set_option maxHeartbeats 4000000 in
theorem gX1_look_b116 {R : (Int32 × ab_S)} (C : ab_C yC p s m args meth c D cA ad cX1_look 16 RX1 (some .boolean)) {kk30 : Nat → Int32 → Int32 → Int32 → Int64 → Int32 → Nat → Nat → Int32 → Int32 → ab_S → Option (Int32 × ab_S)} (hk30 : ∀ (c1 : Nat) (v2 : Int32) (v4 : Int32) (v5 : Int32) (v6 : Int64) (v8 : Int32) (c9 : Nat) (c10 : Nat) (v11 : Int32) (v12 : Int32) (σ : ab_S), c1 < 4 → c9 < 3 → c10 < 4 → kk30 c1 v2 v4 v5 v6 v8 c9 c10 v11 v12 σ = some R → ab_G yC p l e s m args below meth c D cA ad 16 3 (some (.inl R.1)) R.2 30 [some (.inr (.inr (21, 0))), some (.inr (.inr (23, c1))), some (.inl v2), none, some (.inl v4), some (.inl v5), some (.inr (.inl v6)), none, some (.inl v8), some (.inr (.inr (31, c9))), some (.inr (.inr (29, c10))), some (.inl v11), some (.inl v12), none, none, none] [] σ) (c1 : Nat) (v2 : Int32) (v4 : Int32) (v5 : Int32) (v6 : Int64) (v8 : Int32) (c9 : Nat) (c10 : Nat) (v11 : Int32) (v12 : Int32) (σ : ab_S) (mc1 : c1 < 4) (mc9 : c9 < 3) (mc10 : c10 < 4) (h : fX1_look_b116 kk30 c1 v2 v4 v5 v6 v8 c9 c10 v11 v12 σ = some R) : ab_G yC p l e s m args below meth c D cA ad 16 3 (some (.inl R.1)) R.2 116 [some (.inr (.inr (21, 0))), some (.inr (.inr (23, c1))), some (.inl v2), none, some (.inl v4), some (.inl v5), some (.inr (.inl v6)), none, some (.inl v8), some (.inr (.inr (31, c9))), some (.inr (.inr (29, c10))), some (.inl v11), some (.inl v12), none, none, none] [] σ := by
  refine ab_iinc C dX1_look_116 rfl (v := 1) rfl (Nat.le_of_ble_eq_true rfl) ?_
  refine ab_goto C (tgt := 30) dX1_look_119 (by decide) ?_
  refine ab_weak (lv' := [some (.inr (.inr (21, 0))), some (.inr (.inr (23, c1))), some (.inl v2), none, some (.inl v4), some (.inl v5), some (.inr (.inl v6)), none, some (.inl v8), some (.inr (.inr (31, c9))), some (.inr (.inr (29, c10))), some (.inl v11), some (.inl (v12 + 1)), none, none, none]) ⟨.inr rfl, ⟨.inr rfl, ⟨.inr rfl, ⟨.inl rfl, ⟨.inr rfl, ⟨.inr rfl, ⟨.inr rfl, ⟨.inl rfl, ⟨.inr rfl, ⟨.inr rfl, ⟨.inr rfl, ⟨.inr rfl, ⟨.inr rfl, ⟨.inl rfl, ⟨.inl rfl, ⟨.inl rfl, trivial⟩⟩⟩⟩⟩⟩⟩⟩⟩⟩⟩⟩⟩⟩⟩⟩ ?_
  exact hk30 _ _ _ _ _ _ _ _ _ _ _ (mc1) (mc9) (mc10) h
set_option maxRecDepth 100000 in
set_option maxHeartbeats 4000000 in
theorem gX1_look_b88 {R : (Int32 × ab_S)} (C : ab_C yC p s m args meth c D cA ad cX1_look 16 RX1 (some .boolean)) {kk30 : Nat → Int32 → Int32 → Int32 → Int64 → Int32 → Nat → Nat → Int32 → Int32 → ab_S → Option (Int32 × ab_S)} (hk30 : ∀ (c1 : Nat) (v2 : Int32) (v4 : Int32) (v5 : Int32) (v6 : Int64) (v8 : Int32) (c9 : Nat) (c10 : Nat) (v11 : Int32) (v12 : Int32) (σ : ab_S), c1 < 4 → c9 < 3 → c10 < 4 → kk30 c1 v2 v4 v5 v6 v8 c9 c10 v11 v12 σ = some R → ab_G yC p l e s m args below meth c D cA ad 16 3 (some (.inl R.1)) R.2 30 [some (.inr (.inr (21, 0))), some (.inr (.inr (23, c1))), some (.inl v2), none, some (.inl v4), some (.inl v5), some (.inr (.inl v6)), none, some (.inl v8), some (.inr (.inr (31, c9))), some (.inr (.inr (29, c10))), some (.inl v11), some (.inl v12), none, none, none] [] σ) (c1 : Nat) (v2 : Int32) (v4 : Int32) (v5 : Int32) (v6 : Int64) (v8 : Int32) (c9 : Nat) (c10 : Nat) (v11 : Int32) (v12 : Int32) (v13 : Int64) (v15 : Int32) (σ : ab_S) (mc1 : c1 < 4) (mc9 : c9 < 3) (mc10 : c10 < 4) (h : fX1_look_b88 kk30 c1 v2 v4 v5 v6 v8 c9 c10 v11 v12 v13 v15 σ = some R) : ab_G yC p l e s m args below meth c D cA ad 16 3 (some (.inl R.1)) R.2 88 [some (.inr (.inr (21, 0))), some (.inr (.inr (23, c1))), some (.inl v2), none, some (.inl v4), some (.inl v5), some (.inr (.inl v6)), none, some (.inl v8), some (.inr (.inr (31, c9))), some (.inr (.inr (29, c10))), some (.inl v11), some (.inl v12), some (.inr (.inl v13)), none, some (.inl v15)] [] σ := by
  refine ab_aload C dX1_look_88 rfl ?_
  refine ab_iload C dX1_look_90 rfl ?_
  refine ab_lload C dX1_look_92 rfl ?_
  refine ab_iload C dX1_look_94 rfl ?_
  refine ab_i2l C dX1_look_96  ?_
  refine ab_lmul C dX1_look_97  ?_
  refine ab_lload C dX1_look_98 rfl ?_
  refine ab_lmul C dX1_look_100  ?_
  obtain ⟨hg1, h⟩ := ab_grd h
  refine ab_last C dX1_look_101 rkC_29 (mmC_29 (mc10)) hg1 ?_
  refine ab_nmS (fun σ2 eσ2 => ?_)
  replace h := ab_kh eσ2 h
  refine ab_aload C dX1_look_102 rfl ?_
  refine ab_iload C dX1_look_104 rfl ?_
  refine ab_lload C dX1_look_106 rfl ?_
  refine ab_bipush C dX1_look_108 (v := 12) rfl ?_
  refine ab_iload C dX1_look_110 rfl ?_
  refine ab_isub C dX1_look_112  ?_
  refine ab_i2l C dX1_look_113  ?_
  refine ab_lmul C dX1_look_114  ?_
  obtain ⟨hg3, h⟩ := ab_grd h
  refine ab_last C dX1_look_115 rkC_31 (mmC_31 (mc9)) hg3 ?_
  refine ab_nmS (fun σ4 eσ4 => ?_)
  replace h := ab_kh eσ4 h
  refine ab_weak (lv' := [some (.inr (.inr (21, 0))), some (.inr (.inr (23, c1))), some (.inl v2), none, some (.inl v4), some (.inl v5), some (.inr (.inl v6)), none, some (.inl v8), some (.inr (.inr (31, c9))), some (.inr (.inr (29, c10))), some (.inl v11), some (.inl v12), none, none, none]) ⟨.inr rfl, ⟨.inr rfl, ⟨.inr rfl, ⟨.inl rfl, ⟨.inr rfl, ⟨.inr rfl, ⟨.inr rfl, ⟨.inl rfl, ⟨.inr rfl, ⟨.inr rfl, ⟨.inr rfl, ⟨.inr rfl, ⟨.inr rfl, ⟨.inl rfl, ⟨.inl rfl, ⟨.inl rfl, trivial⟩⟩⟩⟩⟩⟩⟩⟩⟩⟩⟩⟩⟩⟩⟩⟩ ?_
  exact gX1_look_b116 C hk30 _ _ _ _ _ _ _ _ _ _ _ (mc1) (mc9) (mc10) h
set_option maxRecDepth 100000 in
set_option maxHeartbeats 4000000 in
theorem gX1_look_b30_o {R : (Int32 × ab_S)} (C : ab_C yC p s m args meth c D cA ad cX1_look 16 RX1 (some .boolean)) {kk30 : Nat → Int32 → Int32 → Int32 → Int64 → Int32 → Nat → Nat → Int32 → Int32 → ab_S → Option (Int32 × ab_S)} (hk30 : ∀ (c1 : Nat) (v2 : Int32) (v4 : Int32) (v5 : Int32) (v6 : Int64) (v8 : Int32) (c9 : Nat) (c10 : Nat) (v11 : Int32) (v12 : Int32) (σ : ab_S), c1 < 4 → c9 < 3 → c10 < 4 → kk30 c1 v2 v4 v5 v6 v8 c9 c10 v11 v12 σ = some R → ab_G yC p l e s m args below meth c D cA ad 16 3 (some (.inl R.1)) R.2 30 [some (.inr (.inr (21, 0))), some (.inr (.inr (23, c1))), some (.inl v2), none, some (.inl v4), some (.inl v5), some (.inr (.inl v6)), none, some (.inl v8), some (.inr (.inr (31, c9))), some (.inr (.inr (29, c10))), some (.inl v11), some (.inl v12), none, none, none] [] σ) (c1 : Nat) (v2 : Int32) (v4 : Int32) (v5 : Int32) (v6 : Int64) (v8 : Int32) (c9 : Nat) (c10 : Nat) (v11 : Int32) (v12 : Int32) (σ : ab_S) (mc1 : c1 < 4) (mc9 : c9 < 3) (mc10 : c10 < 4) (h : fX1_look_b30_o kk30 c1 v2 v4 v5 v6 v8 c9 c10 v11 v12 σ = some R) : ab_G yC p l e s m args below meth c D cA ad 16 3 (some (.inl R.1)) R.2 30 [some (.inr (.inr (21, 0))), some (.inr (.inr (23, c1))), some (.inl v2), none, some (.inl v4), some (.inl v5), some (.inr (.inl v6)), none, some (.inl v8), some (.inr (.inr (31, c9))), some (.inr (.inr (29, c10))), some (.inl v11), some (.inl v12), none, none, none] [] σ := by
  refine ab_iload C dX1_look_30 rfl ?_
  refine ab_aload_n C dX1_look_32 rfl ?_
  refine ab_getR C dX1_look_33 flX1_39 rkC_21 rfl mmC_21 ?_
  refine ab_getI C dX1_look_36 flX1_47 rkC_1 rfl mmC_1 ?_
  refine ab_icmp_ge C (tgt := 122) dX1_look_39 (by decide) (fun hc1 => ?_) (fun hc1 => ?_)
  · replace h := ab_pos hc1 h
    refine ab_iload C dX1_look_122 rfl ?_
    obtain ⟨hg2, h⟩ := ab_grd h
    obtain rfl := Option.some.inj h
    exact ab_zret C dX1_look_124 hg2
  · replace h := ab_neg hc1 h
    refine ab_aload C dX1_look_42 rfl ?_
    refine ab_iload C dX1_look_44 rfl ?_
    obtain ⟨hg3, h⟩ := ab_grd h
    refine ab_lald C dX1_look_46 rkC_31 (mmC_31 (mc9)) hg3 ?_
    refine ab_lstore C dX1_look_47 (Nat.le_of_ble_eq_true rfl) ?_
    refine ab_aload C dX1_look_49 rfl ?_
    refine ab_iload C dX1_look_51 rfl ?_
    refine ab_lconst C dX1_look_53 (v := 0) rfl ?_
    obtain ⟨hg4, h⟩ := ab_grd h
    refine ab_last C dX1_look_54 rkC_29 (mmC_29 (mc10)) hg4 ?_
    refine ab_nmS (fun σ5 eσ5 => ?_)
    replace h := ab_kh eσ5 h
    refine ab_lload C dX1_look_55 rfl ?_
    refine ab_lconst C dX1_look_57 (v := 0) rfl ?_
    refine ab_lcmp C dX1_look_58  ?_
    refine ab_if_ne C (tgt := 65) dX1_look_59 (by decide) (fun hc6 => ?_) (fun hc6 => ?_)
    · replace h := ab_neg hc6 h
      refine ab_aload_n C dX1_look_65 rfl ?_
      refine ab_iload_n C dX1_look_66 rfl ?_
      refine ab_iload C dX1_look_67 rfl ?_
      refine ab_iload C dX1_look_69 rfl ?_
      refine ab_iload C dX1_look_71 rfl ?_
      refine ab_iload C dX1_look_73 rfl ?_
      obtain ⟨q7, hq7, h⟩ := ab_bind h
      refine ab_inv1 C dX1_look_75 mlX1_71 yvX5_twelfths rkC_23 ⟨_, _, rfl⟩ (mmC_23 (mc1)) (tX5_twelfths l _ _ _ _ _ _ _ (mc1) hq7) (Nat.le_of_ble_eq_true rfl) (Nat.le_of_ble_eq_true rfl) rfl (Nat.le_of_ble_eq_true rfl) ?_
      refine ab_istore C dX1_look_78 (Nat.le_of_ble_eq_true rfl) ?_
      refine ab_iload C dX1_look_80 rfl ?_
      refine ab_if_eq C (tgt := 88) dX1_look_82 (by decide) (fun hc8 => ?_) (fun hc8 => ?_)
      · replace h := ab_pos hc8 h
        refine ab_weak (lv' := [some (.inr (.inr (21, 0))), some (.inr (.inr (23, c1))), some (.inl v2), none, some (.inl v4), some (.inl v5), some (.inr (.inl v6)), none, some (.inl v8), some (.inr (.inr (31, c9))), some (.inr (.inr (29, c10))), some (.inl v11), some (.inl v12), some (.inr (.inl (σ.2 31 c9 v12.toNatClampNeg))), none, some (.inl q7.1)]) ⟨.inr rfl, ⟨.inr rfl, ⟨.inr rfl, ⟨.inl rfl, ⟨.inr rfl, ⟨.inr rfl, ⟨.inr rfl, ⟨.inl rfl, ⟨.inr rfl, ⟨.inr rfl, ⟨.inr rfl, ⟨.inr rfl, ⟨.inr rfl, ⟨.inr rfl, ⟨.inl rfl, ⟨.inr rfl, trivial⟩⟩⟩⟩⟩⟩⟩⟩⟩⟩⟩⟩⟩⟩⟩⟩ ?_
        exact gX1_look_b88 C hk30 _ _ _ _ _ _ _ _ _ _ _ _ _ (mc1) (mc9) (mc10) h
      · replace h := ab_neg hc8 h
        refine ab_iconst C dX1_look_85 (v := 1) rfl ?_
        refine ab_istore C dX1_look_86 (Nat.le_of_ble_eq_true rfl) ?_
        refine ab_weak (lv' := [some (.inr (.inr (21, 0))), some (.inr (.inr (23, c1))), some (.inl v2), none, some (.inl v4), some (.inl v5), some (.inr (.inl v6)), none, some (.inl v8), some (.inr (.inr (31, c9))), some (.inr (.inr (29, c10))), some (.inl 1), some (.inl v12), some (.inr (.inl (σ.2 31 c9 v12.toNatClampNeg))), none, some (.inl q7.1)]) ⟨.inr rfl, ⟨.inr rfl, ⟨.inr rfl, ⟨.inl rfl, ⟨.inr rfl, ⟨.inr rfl, ⟨.inr rfl, ⟨.inl rfl, ⟨.inr rfl, ⟨.inr rfl, ⟨.inr rfl, ⟨.inr rfl, ⟨.inr rfl, ⟨.inr rfl, ⟨.inl rfl, ⟨.inr rfl, trivial⟩⟩⟩⟩⟩⟩⟩⟩⟩⟩⟩⟩⟩⟩⟩⟩ ?_
        refine ab_weak (lv' := [some (.inr (.inr (21, 0))), some (.inr (.inr (23, c1))), some (.inl v2), none, some (.inl v4), some (.inl v5), some (.inr (.inl v6)), none, some (.inl v8), some (.inr (.inr (31, c9))), some (.inr (.inr (29, c10))), some (.inl 1), some (.inl v12), some (.inr (.inl (σ.2 31 c9 v12.toNatClampNeg))), none, some (.inl q7.1)]) ⟨.inr rfl, ⟨.inr rfl, ⟨.inr rfl, ⟨.inl rfl, ⟨.inr rfl, ⟨.inr rfl, ⟨.inr rfl, ⟨.inl rfl, ⟨.inr rfl, ⟨.inr rfl, ⟨.inr rfl, ⟨.inr rfl, ⟨.inr rfl, ⟨.inr rfl, ⟨.inl rfl, ⟨.inr rfl, trivial⟩⟩⟩⟩⟩⟩⟩⟩⟩⟩⟩⟩⟩⟩⟩⟩ ?_
        exact gX1_look_b88 C hk30 _ _ _ _ _ _ _ _ _ _ _ _ _ (mc1) (mc9) (mc10) h
    · replace h := ab_pos hc6 h
      refine ab_goto C (tgt := 116) dX1_look_62 (by decide) ?_
      refine ab_weak (lv' := [some (.inr (.inr (21, 0))), some (.inr (.inr (23, c1))), some (.inl v2), none, some (.inl v4), some (.inl v5), some (.inr (.inl v6)), none, some (.inl v8), some (.inr (.inr (31, c9))), some (.inr (.inr (29, c10))), some (.inl v11), some (.inl v12), none, none, none]) ⟨.inr rfl, ⟨.inr rfl, ⟨.inr rfl, ⟨.inl rfl, ⟨.inr rfl, ⟨.inr rfl, ⟨.inr rfl, ⟨.inl rfl, ⟨.inr rfl, ⟨.inr rfl, ⟨.inr rfl, ⟨.inr rfl, ⟨.inr rfl, ⟨.inl rfl, ⟨.inl rfl, ⟨.inl rfl, trivial⟩⟩⟩⟩⟩⟩⟩⟩⟩⟩⟩⟩⟩⟩⟩⟩ ?_
      exact gX1_look_b116 C hk30 _ _ _ _ _ _ _ _ _ _ _ (mc1) (mc9) (mc10) h
theorem gX1_look_b30 {R : (Int32 × ab_S)} (C : ab_C yC p s m args meth c D cA ad cX1_look 16 RX1 (some .boolean)) : ∀ (j : Nat) (c1 : Nat) (v2 : Int32) (v4 : Int32) (v5 : Int32) (v6 : Int64) (v8 : Int32) (c9 : Nat) (c10 : Nat) (v11 : Int32) (v12 : Int32) (σ : ab_S), c1 < 4 → c9 < 3 → c10 < 4 → fX1_look_b30 j c1 v2 v4 v5 v6 v8 c9 c10 v11 v12 σ = some R → ab_G yC p l e s m args below meth c D cA ad 16 3 (some (.inl R.1)) R.2 30 [some (.inr (.inr (21, 0))), some (.inr (.inr (23, c1))), some (.inl v2), none, some (.inl v4), some (.inl v5), some (.inr (.inl v6)), none, some (.inl v8), some (.inr (.inr (31, c9))), some (.inr (.inr (29, c10))), some (.inl v11), some (.inl v12), none, none, none] [] σ := by
  intro j
  induction j with
  | zero => intro c1 v2 v4 v5 v6 v8 c9 c10 v11 v12 σ hh0 hh1 hh2 h; cases h
  | succ j ih => intro c1 v2 v4 v5 v6 v8 c9 c10 v11 v12 σ hh0 hh1 hh2 h; exact gX1_look_b30_o C ih _ _ _ _ _ _ _ _ _ _ _ hh0 hh1 hh2 h
set_option maxRecDepth 100000 in
set_option maxHeartbeats 4000000 in
theorem tX1_look (l : Launch) (k1 : Nat) (x2 : Int32) (x3 : Int32) (x4 : Int32) (x5 : Int32) (x6 : Int64) (σ : ab_S) (hk1 : k1 < 4) {R : (Int32 × ab_S)} (h : fX1_look k1 x2 x3 x4 x5 x6 σ = some R) : ab_M l yC yX1_look cX1_look 16 (some .boolean) 3 [.inr (.inr (21, 0)), .inr (.inr (23, k1)), .inl x2, .inl x3, .inl x4, .inl x5, .inr (.inl x6)] σ (some (.inl R.1)) R.2 := by
  refine ab_M_intro ndC (by decide) (Nat.le_of_ble_eq_true rfl) ?_
  intro p e s m args below meth c D cA ad C
  have C : ab_C yC p s m args meth c D cA ad cX1_look 16 RX1 (some .boolean) := C
  refine ab_weak (lv' := [some (.inr (.inr (21, 0))), some (.inr (.inr (23, k1))), some (.inl x2), some (.inl x3), some (.inl x4), some (.inl x5), some (.inr (.inl x6)), none, none, none, none, none, none, none, none, none]) ⟨.inr rfl, ⟨.inr rfl, ⟨.inr rfl, ⟨.inr rfl, ⟨.inr rfl, ⟨.inr rfl, ⟨.inr rfl, ⟨.inl rfl, ⟨.inl rfl, ⟨.inl rfl, ⟨.inl rfl, ⟨.inl rfl, ⟨.inl rfl, ⟨.inl rfl, ⟨.inl rfl, ⟨.inl rfl, trivial⟩⟩⟩⟩⟩⟩⟩⟩⟩⟩⟩⟩⟩⟩⟩⟩ ?_
  refine ab_iload_n C dX1_look_0 rfl ?_
  obtain ⟨q1, hq1, h⟩ := ab_bind h
  refine ab_invS1 C dX1_look_1 mlX1_75 ysJ6_bitCount_0f7a4 (tJ6_bitCount_0f7a4 l _ _ hq1) (Nat.le_of_ble_eq_true rfl) (Nat.le_of_ble_eq_true rfl) rfl (Nat.le_of_ble_eq_true rfl) ?_
  refine ab_istore C dX1_look_4 (Nat.le_of_ble_eq_true rfl) ?_
  refine ab_aload_n C dX1_look_6 rfl ?_
  refine ab_getR C dX1_look_7 flX1_26 rkC_21 rfl mmC_21 ?_
  refine ab_iload_n C dX1_look_10 rfl ?_
  obtain ⟨hg2, h⟩ := ab_grd h
  refine ab_aald4 C dX1_look_11 rkC_30 mmC_30 hg2 ?_
  refine ab_astore C dX1_look_12 (Nat.le_of_ble_eq_true rfl) ?_
  refine ab_aload_n C dX1_look_14 rfl ?_
  refine ab_getR C dX1_look_15 flX1_23 rkC_21 rfl mmC_21 ?_
  refine ab_iload_n C dX1_look_18 rfl ?_
  refine ab_iconst C dX1_look_19 (v := 1) rfl ?_
  refine ab_iadd C dX1_look_20  ?_
  obtain ⟨hg3, h⟩ := ab_grd h
  refine ab_aald4 C dX1_look_21 rkC_28 mmC_28 hg3 ?_
  refine ab_astore C dX1_look_22 (Nat.le_of_ble_eq_true rfl) ?_
  refine ab_weak (lv' := [some (.inr (.inr (21, 0))), some (.inr (.inr (23, k1))), some (.inl x2), some (.inl x3), some (.inl x4), some (.inl x5), some (.inr (.inl x6)), none, some (.inl q1), some (.inr (.inr (31, x2.toNatClampNeg))), some (.inr (.inr (29, (x2 + 1).toNatClampNeg))), none, none, none, none, none]) ⟨.inr rfl, ⟨.inr rfl, ⟨.inr rfl, ⟨.inr rfl, ⟨.inr rfl, ⟨.inr rfl, ⟨.inr rfl, ⟨.inl rfl, ⟨.inr rfl, ⟨.inr rfl, ⟨.inr rfl, ⟨.inl rfl, ⟨.inl rfl, ⟨.inl rfl, ⟨.inl rfl, ⟨.inl rfl, trivial⟩⟩⟩⟩⟩⟩⟩⟩⟩⟩⟩⟩⟩⟩⟩⟩ ?_
  refine ab_iconst C dX1_look_24 (v := 0) rfl ?_
  refine ab_istore C dX1_look_25 (Nat.le_of_ble_eq_true rfl) ?_
  refine ab_iconst C dX1_look_27 (v := 0) rfl ?_
  refine ab_istore C dX1_look_28 (Nat.le_of_ble_eq_true rfl) ?_
  refine ab_weak (lv' := [some (.inr (.inr (21, 0))), some (.inr (.inr (23, k1))), some (.inl x2), none, some (.inl x4), some (.inl x5), some (.inr (.inl x6)), none, some (.inl q1), some (.inr (.inr (31, x2.toNatClampNeg))), some (.inr (.inr (29, (x2 + 1).toNatClampNeg))), some (.inl 0), some (.inl 0), none, none, none]) ⟨.inr rfl, ⟨.inr rfl, ⟨.inr rfl, ⟨.inl rfl, ⟨.inr rfl, ⟨.inr rfl, ⟨.inr rfl, ⟨.inl rfl, ⟨.inr rfl, ⟨.inr rfl, ⟨.inr rfl, ⟨.inr rfl, ⟨.inr rfl, ⟨.inl rfl, ⟨.inl rfl, ⟨.inl rfl, trivial⟩⟩⟩⟩⟩⟩⟩⟩⟩⟩⟩⟩⟩⟩⟩⟩ ?_
  exact gX1_look_b30 C ab_N _ _ _ _ _ _ _ _ _ _ _ (hk1) (ab_inb_lt hg2) (ab_inb_lt hg3) h
end
def fX1_pass_b59 (kk6 : Int32 → Int64 → Int32 → Int32 → ab_S → Option (Int32 × ab_S)) (v1 : Int32) (v2 : Int64) (v4 : Int32) (v5 : Int32) (σ : ab_S) : Option (Int32 × ab_S) := kk6 v1 v2 v4 (v5 + 1) σ
def fX1_pass_b6_o (kk6 : Int32 → Int64 → Int32 → Int32 → ab_S → Option (Int32 × ab_S)) (v1 : Int32) (v2 : Int64) (v4 : Int32) (v5 : Int32) (σ : ab_S) : Option (Int32 × ab_S) := (if (σ.1 1 0 3) ≤ v5 then (if ab_isb v4 = true then some (v4, σ) else none) else (if ab_inb (v1 + 1) 4 = true then (if ab_inb v1 3 = true then (if ab_inb v5 5 = true then (if ab_inb v5 5 = true then ab_k (ab_sl σ 29 ((v1 + 1).toNatClampNeg) v5.toNatClampNeg ((σ.2 31 v1.toNatClampNeg v5.toNatClampNeg) * v2)) fun σ7 => (if ab_inb (v1 + 1) 4 = true then (if ab_inb v5 5 = true then (if (lg_cmp (σ7.2 29 ((v1 + 1).toNatClampNeg) v5.toNatClampNeg) 0) = 0 then fX1_pass_b59 kk6 v1 v2 v4 v5 σ7 else fX1_pass_b59 kk6 v1 v2 1 v5 σ7) else none) else none) else none) else none) else none) else none))
def fX1_pass_b6 : Nat → Int32 → Int64 → Int32 → Int32 → ab_S → Option (Int32 × ab_S)
  | 0 => fun _ _ _ _ _ => none
  | n + 1 => fX1_pass_b6_o  (fX1_pass_b6 n)
def fX1_pass (x1 : Int32) (x2 : Int64) (σ : ab_S) : Option (Int32 × ab_S) := fX1_pass_b6 ab_N x1 x2 0 0 σ
section
variable {p : Program} {l : Launch} {e : Env} {s : State} {m : MethodId} {args : Array Value} {below : List Frame} {meth : Method} {c : Code} {D : va_G} {cA : Nat → ClassId} {ad : Nat → Nat → Nat}
set_option maxRecDepth 100000 in
set_option maxHeartbeats 4000000 in
theorem gX1_pass_b59 {R : (Int32 × ab_S)} (C : ab_C yC p s m args meth c D cA ad cX1_pass 6 RX1 (some .boolean)) {kk6 : Int32 → Int64 → Int32 → Int32 → ab_S → Option (Int32 × ab_S)} (hk6 : ∀ (v1 : Int32) (v2 : Int64) (v4 : Int32) (v5 : Int32) (σ : ab_S), kk6 v1 v2 v4 v5 σ = some R → ab_G yC p l e s m args below meth c D cA ad 6 0 (some (.inl R.1)) R.2 6 [some (.inr (.inr (21, 0))), some (.inl v1), some (.inr (.inl v2)), none, some (.inl v4), some (.inl v5)] [] σ) (v1 : Int32) (v2 : Int64) (v4 : Int32) (v5 : Int32) (σ : ab_S) (h : fX1_pass_b59 kk6 v1 v2 v4 v5 σ = some R) : ab_G yC p l e s m args below meth c D cA ad 6 0 (some (.inl R.1)) R.2 59 [some (.inr (.inr (21, 0))), some (.inl v1), some (.inr (.inl v2)), none, some (.inl v4), some (.inl v5)] [] σ := by
  refine ab_iinc C dX1_pass_59 rfl (v := 1) rfl (Nat.le_of_ble_eq_true rfl) ?_
  refine ab_goto C (tgt := 6) dX1_pass_62 (by decide) ?_
  refine ab_weak (lv' := [some (.inr (.inr (21, 0))), some (.inl v1), some (.inr (.inl v2)), none, some (.inl v4), some (.inl (v5 + 1))]) ⟨.inr rfl, ⟨.inr rfl, ⟨.inr rfl, ⟨.inl rfl, ⟨.inr rfl, ⟨.inr rfl, trivial⟩⟩⟩⟩⟩⟩ ?_
  exact hk6 _ _ _ _ _ h
set_option maxRecDepth 100000 in
set_option maxHeartbeats 4000000 in
theorem gX1_pass_b6_o {R : (Int32 × ab_S)} (C : ab_C yC p s m args meth c D cA ad cX1_pass 6 RX1 (some .boolean)) {kk6 : Int32 → Int64 → Int32 → Int32 → ab_S → Option (Int32 × ab_S)} (hk6 : ∀ (v1 : Int32) (v2 : Int64) (v4 : Int32) (v5 : Int32) (σ : ab_S), kk6 v1 v2 v4 v5 σ = some R → ab_G yC p l e s m args below meth c D cA ad 6 0 (some (.inl R.1)) R.2 6 [some (.inr (.inr (21, 0))), some (.inl v1), some (.inr (.inl v2)), none, some (.inl v4), some (.inl v5)] [] σ) (v1 : Int32) (v2 : Int64) (v4 : Int32) (v5 : Int32) (σ : ab_S) (h : fX1_pass_b6_o kk6 v1 v2 v4 v5 σ = some R) : ab_G yC p l e s m args below meth c D cA ad 6 0 (some (.inl R.1)) R.2 6 [some (.inr (.inr (21, 0))), some (.inl v1), some (.inr (.inl v2)), none, some (.inl v4), some (.inl v5)] [] σ := by
  refine ab_iload C dX1_pass_6 rfl ?_
  refine ab_aload_n C dX1_pass_8 rfl ?_
  refine ab_getR C dX1_pass_9 flX1_39 rkC_21 rfl mmC_21 ?_
  refine ab_getI C dX1_pass_12 flX1_47 rkC_1 rfl mmC_1 ?_
  refine ab_icmp_ge C (tgt := 65) dX1_pass_15 (by decide) (fun hc1 => ?_) (fun hc1 => ?_)
  · replace h := ab_pos hc1 h
    refine ab_iload C dX1_pass_65 rfl ?_
    obtain ⟨hg2, h⟩ := ab_grd h
    obtain rfl := Option.some.inj h
    exact ab_zret C dX1_pass_67 hg2
  · replace h := ab_neg hc1 h
    refine ab_aload_n C dX1_pass_18 rfl ?_
    refine ab_getR C dX1_pass_19 flX1_23 rkC_21 rfl mmC_21 ?_
    refine ab_iload_n C dX1_pass_22 rfl ?_
    refine ab_iconst C dX1_pass_23 (v := 1) rfl ?_
    refine ab_iadd C dX1_pass_24  ?_
    obtain ⟨hg3, h⟩ := ab_grd h
    refine ab_aald4 C dX1_pass_25 rkC_28 mmC_28 hg3 ?_
    refine ab_iload C dX1_pass_26 rfl ?_
    refine ab_aload_n C dX1_pass_28 rfl ?_
    refine ab_getR C dX1_pass_29 flX1_26 rkC_21 rfl mmC_21 ?_
    refine ab_iload_n C dX1_pass_32 rfl ?_
    obtain ⟨hg4, h⟩ := ab_grd h
    refine ab_aald4 C dX1_pass_33 rkC_30 mmC_30 hg4 ?_
    refine ab_iload C dX1_pass_34 rfl ?_
    obtain ⟨hg5, h⟩ := ab_grd h
    refine ab_lald C dX1_pass_36 rkC_31 (mmC_31 (ab_inb_lt hg4)) hg5 ?_
    refine ab_lload_n C dX1_pass_37 rfl ?_
    refine ab_lmul C dX1_pass_38  ?_
    obtain ⟨hg6, h⟩ := ab_grd h
    refine ab_last C dX1_pass_39 rkC_29 (mmC_29 (ab_inb_lt hg3)) hg6 ?_
    refine ab_nmS (fun σ7 eσ7 => ?_)
    replace h := ab_kh eσ7 h
    refine ab_aload_n C dX1_pass_40 rfl ?_
    refine ab_getR C dX1_pass_41 flX1_23 rkC_21 rfl mmC_21 ?_
    refine ab_iload_n C dX1_pass_44 rfl ?_
    refine ab_iconst C dX1_pass_45 (v := 1) rfl ?_
    refine ab_iadd C dX1_pass_46  ?_
    obtain ⟨hg8, h⟩ := ab_grd h
    refine ab_aald4 C dX1_pass_47 rkC_28 mmC_28 hg8 ?_
    refine ab_iload C dX1_pass_48 rfl ?_
    obtain ⟨hg9, h⟩ := ab_grd h
    refine ab_lald C dX1_pass_50 rkC_29 (mmC_29 (ab_inb_lt hg8)) hg9 ?_
    refine ab_lconst C dX1_pass_51 (v := 0) rfl ?_
    refine ab_lcmp C dX1_pass_52  ?_
    refine ab_if_eq C (tgt := 59) dX1_pass_53 (by decide) (fun hc10 => ?_) (fun hc10 => ?_)
    · replace h := ab_pos hc10 h
      refine ab_weak (lv' := [some (.inr (.inr (21, 0))), some (.inl v1), some (.inr (.inl v2)), none, some (.inl v4), some (.inl v5)]) ⟨.inr rfl, ⟨.inr rfl, ⟨.inr rfl, ⟨.inl rfl, ⟨.inr rfl, ⟨.inr rfl, trivial⟩⟩⟩⟩⟩⟩ ?_
      exact gX1_pass_b59 C hk6 _ _ _ _ _ h
    · replace h := ab_neg hc10 h
      refine ab_iconst C dX1_pass_56 (v := 1) rfl ?_
      refine ab_istore C dX1_pass_57 (Nat.le_of_ble_eq_true rfl) ?_
      refine ab_weak (lv' := [some (.inr (.inr (21, 0))), some (.inl v1), some (.inr (.inl v2)), none, some (.inl 1), some (.inl v5)]) ⟨.inr rfl, ⟨.inr rfl, ⟨.inr rfl, ⟨.inl rfl, ⟨.inr rfl, ⟨.inr rfl, trivial⟩⟩⟩⟩⟩⟩ ?_
      exact gX1_pass_b59 C hk6 _ _ _ _ _ h
theorem gX1_pass_b6 {R : (Int32 × ab_S)} (C : ab_C yC p s m args meth c D cA ad cX1_pass 6 RX1 (some .boolean)) : ∀ (j : Nat) (v1 : Int32) (v2 : Int64) (v4 : Int32) (v5 : Int32) (σ : ab_S), fX1_pass_b6 j v1 v2 v4 v5 σ = some R → ab_G yC p l e s m args below meth c D cA ad 6 0 (some (.inl R.1)) R.2 6 [some (.inr (.inr (21, 0))), some (.inl v1), some (.inr (.inl v2)), none, some (.inl v4), some (.inl v5)] [] σ := by
  intro j
  induction j with
  | zero => intro v1 v2 v4 v5 σ  h; cases h
  | succ j ih => intro v1 v2 v4 v5 σ  h; exact gX1_pass_b6_o C ih _ _ _ _ _ h
set_option maxRecDepth 100000 in
set_option maxHeartbeats 4000000 in
theorem tX1_pass (l : Launch) (x1 : Int32) (x2 : Int64) (σ : ab_S) {R : (Int32 × ab_S)} (h : fX1_pass x1 x2 σ = some R) : ab_M l yC yX1_pass cX1_pass 6 (some .boolean) 0 [.inr (.inr (21, 0)), .inl x1, .inr (.inl x2)] σ (some (.inl R.1)) R.2 := by
  refine ab_M_intro ndC (by decide) (Nat.le_of_ble_eq_true rfl) ?_
  intro p e s m args below meth c D cA ad C
  have C : ab_C yC p s m args meth c D cA ad cX1_pass 6 RX1 (some .boolean) := C
  refine ab_weak (lv' := [some (.inr (.inr (21, 0))), some (.inl x1), some (.inr (.inl x2)), none, none, none]) ⟨.inr rfl, ⟨.inr rfl, ⟨.inr rfl, ⟨.inl rfl, ⟨.inl rfl, ⟨.inl rfl, trivial⟩⟩⟩⟩⟩⟩ ?_
  refine ab_iconst C dX1_pass_0 (v := 0) rfl ?_
  refine ab_istore C dX1_pass_1 (Nat.le_of_ble_eq_true rfl) ?_
  refine ab_iconst C dX1_pass_3 (v := 0) rfl ?_
  refine ab_istore C dX1_pass_4 (Nat.le_of_ble_eq_true rfl) ?_
  refine ab_weak (lv' := [some (.inr (.inr (21, 0))), some (.inl x1), some (.inr (.inl x2)), none, some (.inl 0), some (.inl 0)]) ⟨.inr rfl, ⟨.inr rfl, ⟨.inr rfl, ⟨.inl rfl, ⟨.inr rfl, ⟨.inr rfl, trivial⟩⟩⟩⟩⟩⟩ ?_
  exact gX1_pass_b6 C ab_N _ _ _ _ _ h
end
def fX7_wholeAct_b4_o (kk4 : Int64 → Int32 → ab_S → Option Int64) (v1 : Int64) (v3 : Int32) (σ : ab_S) : Option Int64 := (if (σ.1 1 0 3) ≤ v3 then some v1 else kk4 (v1 * 12) (v3 + 1) σ)
def fX7_wholeAct_b4 : Nat → Int64 → Int32 → ab_S → Option Int64
  | 0 => fun _ _ _ => none
  | n + 1 => fX7_wholeAct_b4_o  (fX7_wholeAct_b4 n)
def fX7_wholeAct (σ : ab_S) : Option Int64 := fX7_wholeAct_b4 ab_N 1 1 σ
section
variable {p : Program} {l : Launch} {e : Env} {s : State} {m : MethodId} {args : Array Value} {below : List Frame} {meth : Method} {c : Code} {D : va_G} {cA : Nat → ClassId} {ad : Nat → Nat → Nat}
set_option maxRecDepth 100000 in
set_option maxHeartbeats 4000000 in
theorem gX7_wholeAct_b4_o {R : Int64} (C : ab_C yC p s m args meth c D cA ad cX7_wholeAct 4 RX7 (some .long)) (σ : ab_S) {kk4 : Int64 → Int32 → ab_S → Option Int64} (hk4 : ∀ (v1 : Int64) (v3 : Int32), kk4 v1 v3 σ = some R → ab_G yC p l e s m args below meth c D cA ad 4 0 (some (.inr (.inl R))) σ 4 [some (.inr (.inr (1, 0))), some (.inr (.inl v1)), none, some (.inl v3)] [] σ) (v1 : Int64) (v3 : Int32) (h : fX7_wholeAct_b4_o kk4 v1 v3 σ = some R) : ab_G yC p l e s m args below meth c D cA ad 4 0 (some (.inr (.inl R))) σ 4 [some (.inr (.inr (1, 0))), some (.inr (.inl v1)), none, some (.inl v3)] [] σ := by
  refine ab_iload_n C dX7_wholeAct_4 rfl ?_
  refine ab_aload_n C dX7_wholeAct_5 rfl ?_
  refine ab_getI C dX7_wholeAct_6 flX7_32 rkC_1 rfl mmC_1 ?_
  refine ab_icmp_ge C (tgt := 24) dX7_wholeAct_9 (by decide) (fun hc1 => ?_) (fun hc1 => ?_)
  · replace h := ab_pos hc1 h
    refine ab_lload_n C dX7_wholeAct_24 rfl ?_
    obtain rfl := Option.some.inj h
    exact ab_lret C dX7_wholeAct_25
  · replace h := ab_neg hc1 h
    refine ab_lload_n C dX7_wholeAct_12 rfl ?_
    refine ab_ldc2 C dX7_wholeAct_13 cwX7_44 ?_
    refine ab_lmul C dX7_wholeAct_16  ?_
    refine ab_lstore_n C dX7_wholeAct_17 (Nat.le_of_ble_eq_true rfl) ?_
    refine ab_iinc C dX7_wholeAct_18 rfl (v := 1) rfl (Nat.le_of_ble_eq_true rfl) ?_
    refine ab_goto C (tgt := 4) dX7_wholeAct_21 (by decide) ?_
    refine ab_weak (lv' := [some (.inr (.inr (1, 0))), some (.inr (.inl (v1 * 12))), none, some (.inl (v3 + 1))]) ⟨.inr rfl, ⟨.inr rfl, ⟨.inl rfl, ⟨.inr rfl, trivial⟩⟩⟩⟩ ?_
    exact hk4 _ _ h
theorem gX7_wholeAct_b4 {R : Int64} (C : ab_C yC p s m args meth c D cA ad cX7_wholeAct 4 RX7 (some .long)) (σ : ab_S) : ∀ (j : Nat) (v1 : Int64) (v3 : Int32), fX7_wholeAct_b4 j v1 v3 σ = some R → ab_G yC p l e s m args below meth c D cA ad 4 0 (some (.inr (.inl R))) σ 4 [some (.inr (.inr (1, 0))), some (.inr (.inl v1)), none, some (.inl v3)] [] σ := by
  intro j
  induction j with
  | zero => intro v1 v3  h; cases h
  | succ j ih => intro v1 v3  h; exact gX7_wholeAct_b4_o C σ ih _ _ h
set_option maxRecDepth 100000 in
set_option maxHeartbeats 4000000 in
theorem tX7_wholeAct (l : Launch) (σ : ab_S) {R : Int64} (h : fX7_wholeAct σ = some R) : ab_M l yC yX7_wholeAct cX7_wholeAct 4 (some .long) 0 [.inr (.inr (1, 0))] σ (some (.inr (.inl R))) σ := by
  refine ab_M_intro ndC (by decide) (Nat.le_of_ble_eq_true rfl) ?_
  intro p e s m args below meth c D cA ad C
  have C : ab_C yC p s m args meth c D cA ad cX7_wholeAct 4 RX7 (some .long) := C
  refine ab_weak (lv' := [some (.inr (.inr (1, 0))), none, none, none]) ⟨.inr rfl, ⟨.inl rfl, ⟨.inl rfl, ⟨.inl rfl, trivial⟩⟩⟩⟩ ?_
  refine ab_lconst C dX7_wholeAct_0 (v := 1) rfl ?_
  refine ab_lstore_n C dX7_wholeAct_1 (Nat.le_of_ble_eq_true rfl) ?_
  refine ab_iconst C dX7_wholeAct_2 (v := 1) rfl ?_
  refine ab_istore_n C dX7_wholeAct_3 (Nat.le_of_ble_eq_true rfl) ?_
  refine ab_weak (lv' := [some (.inr (.inr (1, 0))), some (.inr (.inl 1)), none, some (.inl 1)]) ⟨.inr rfl, ⟨.inr rfl, ⟨.inl rfl, ⟨.inr rfl, trivial⟩⟩⟩⟩ ?_
  exact gX7_wholeAct_b4 C _ ab_N _ _ h
end
def fX1_guestActs_b163 (rc0 : Nat → Int32 → Int32 → Int32 → Int32 → ab_S → Option (Int64 × ab_S)) (rc1 : Nat → Int32 → Int32 → Int32 → Int32 → ab_S → Option (Int64 × ab_S)) (kk103 : Nat → Int32 → Int32 → Int32 → Int32 → Int64 → Int32 → ab_S → Option (Int64 × ab_S)) (c1 : Nat) (v2 : Int32) (v3 : Int32) (v4 : Int32) (v6 : Int32) (v7 : Int64) (v9 : Int32) (σ : ab_S) : Option (Int64 × ab_S) := kk103 c1 v2 v3 v4 v6 v7 (v9 + 1) σ
def fX1_guestActs_b158 (rc0 : Nat → Int32 → Int32 → Int32 → Int32 → ab_S → Option (Int64 × ab_S)) (rc1 : Nat → Int32 → Int32 → Int32 → Int32 → ab_S → Option (Int64 × ab_S)) (kk103 : Nat → Int32 → Int32 → Int32 → Int32 → Int64 → Int32 → ab_S → Option (Int64 × ab_S)) (c1 : Nat) (v2 : Int32) (v3 : Int32) (v4 : Int32) (v6 : Int32) (v9 : Int32) (t0 : Int64) (t1 : Int64) (σ : ab_S) : Option (Int64 × ab_S) := fX1_guestActs_b163 rc0 rc1 kk103 c1 v2 v3 v4 v6 (if t1 < t0 then t0 else t1) v9 σ
def fX1_guestActs_b103_o (rc0 : Nat → Int32 → Int32 → Int32 → Int32 → ab_S → Option (Int64 × ab_S)) (rc1 : Nat → Int32 → Int32 → Int32 → Int32 → ab_S → Option (Int64 × ab_S)) (kk103 : Nat → Int32 → Int32 → Int32 → Int32 → Int64 → Int32 → ab_S → Option (Int64 × ab_S)) (c1 : Nat) (v2 : Int32) (v3 : Int32) (v4 : Int32) (v6 : Int32) (v7 : Int64) (v9 : Int32) (σ : ab_S) : Option (Int64 × ab_S) := (if (σ.1 1 0 3) ≤ v9 then some (v7, σ) else (fX9_isIn v4 v9).bind fun q2 => (if q2 = 0 then (if v6 = 0 then (rc1 c1 v2 v3 v4 v9 σ).bind fun q5 => fX1_guestActs_b158 rc0 rc1 kk103 c1 v2 v3 v4 v6 v9 v7 q5.1 q5.2 else (if ab_inb v3 4 = true then (if ab_inb v9 5 = true then fX1_guestActs_b158 rc0 rc1 kk103 c1 v2 v3 v4 v6 v9 v7 (σ.2 29 v3.toNatClampNeg v9.toNatClampNeg) σ else none) else none)) else fX1_guestActs_b163 rc0 rc1 kk103 c1 v2 v3 v4 v6 v7 v9 σ))
def fX1_guestActs_b103 (rc0 : Nat → Int32 → Int32 → Int32 → Int32 → ab_S → Option (Int64 × ab_S)) (rc1 : Nat → Int32 → Int32 → Int32 → Int32 → ab_S → Option (Int64 × ab_S)) : Nat → Nat → Int32 → Int32 → Int32 → Int32 → Int64 → Int32 → ab_S → Option (Int64 × ab_S)
  | 0 => fun _ _ _ _ _ _ _ _ => none
  | n + 1 => fX1_guestActs_b103_o rc0 rc1 (fX1_guestActs_b103 rc0 rc1 n)
def fX1_guestActs_b96 (rc0 : Nat → Int32 → Int32 → Int32 → Int32 → ab_S → Option (Int64 × ab_S)) (rc1 : Nat → Int32 → Int32 → Int32 → Int32 → ab_S → Option (Int64 × ab_S)) (t0 : Int64) (σ : ab_S) : Option (Int64 × ab_S) := some (t0, σ)
def fX1_guestActs_b66 (rc0 : Nat → Int32 → Int32 → Int32 → Int32 → ab_S → Option (Int64 × ab_S)) (rc1 : Nat → Int32 → Int32 → Int32 → Int32 → ab_S → Option (Int64 × ab_S)) (c1 : Nat) (v2 : Int32) (v3 : Int32) (v4 : Int32) (v6 : Int32) (t0 : Int32) (σ : ab_S) : Option (Int64 × ab_S) := (if v6 = 0 then (rc1 c1 v2 v3 v4 t0 σ).bind fun q2 => fX1_guestActs_b96 rc0 rc1 q2.1 q2.2 else (if ab_inb v3 4 = true then (if ab_inb t0 5 = true then fX1_guestActs_b96 rc0 rc1 (σ.2 29 v3.toNatClampNeg t0.toNatClampNeg) σ else none) else none))
def fX1_guestActs_b43 (rc0 : Nat → Int32 → Int32 → Int32 → Int32 → ab_S → Option (Int64 × ab_S)) (rc1 : Nat → Int32 → Int32 → Int32 → Int32 → ab_S → Option (Int64 × ab_S)) (c1 : Nat) (v2 : Int32) (v3 : Int32) (v4 : Int32) (v5 : Int32) (v6 : Int32) (t0 : Int32) (σ : ab_S) : Option (Int64 × ab_S) := (if t0 = 0 then fX1_guestActs_b66 rc0 rc1 c1 v2 v3 v4 v6 v5 σ else (fX7_leastOther v4 v5 σ).bind fun q2 => fX1_guestActs_b66 rc0 rc1 c1 v2 v3 v4 v6 q2 σ)
def fX1_guestActs_b38 (rc0 : Nat → Int32 → Int32 → Int32 → Int32 → ab_S → Option (Int64 × ab_S)) (rc1 : Nat → Int32 → Int32 → Int32 → Int32 → ab_S → Option (Int64 × ab_S)) (c1 : Nat) (v2 : Int32) (v3 : Int32) (v4 : Int32) (v5 : Int32) (v6 : Int32) (σ : ab_S) : Option (Int64 × ab_S) := fX1_guestActs_b43 rc0 rc1 c1 v2 v3 v4 v5 v6 1 σ
def fX1_guestActs_b42 (rc0 : Nat → Int32 → Int32 → Int32 → Int32 → ab_S → Option (Int64 × ab_S)) (rc1 : Nat → Int32 → Int32 → Int32 → Int32 → ab_S → Option (Int64 × ab_S)) (c1 : Nat) (v2 : Int32) (v3 : Int32) (v4 : Int32) (v5 : Int32) (v6 : Int32) (σ : ab_S) : Option (Int64 × ab_S) := fX1_guestActs_b43 rc0 rc1 c1 v2 v3 v4 v5 v6 0 σ
def fX1_guestActs_b16 (rc0 : Nat → Int32 → Int32 → Int32 → Int32 → ab_S → Option (Int64 × ab_S)) (rc1 : Nat → Int32 → Int32 → Int32 → Int32 → ab_S → Option (Int64 × ab_S)) (c1 : Nat) (v2 : Int32) (v3 : Int32) (v4 : Int32) (v5 : Int32) (t0 : Int32) (σ : ab_S) : Option (Int64 × ab_S) := (if v2 = 3 then fX1_guestActs_b103 rc0 rc1 ab_N c1 v2 v3 v4 t0 0 0 σ else (if v2 = 2 then fX1_guestActs_b38 rc0 rc1 c1 v2 v3 v4 v5 t0 σ else (if v2 = 1 then (if t0 = 0 then fX1_guestActs_b42 rc0 rc1 c1 v2 v3 v4 v5 t0 σ else fX1_guestActs_b38 rc0 rc1 c1 v2 v3 v4 v5 t0 σ) else fX1_guestActs_b42 rc0 rc1 c1 v2 v3 v4 v5 t0 σ)))
def fX1_guestActs_o (rc0 : Nat → Int32 → Int32 → Int32 → Int32 → ab_S → Option (Int64 × ab_S)) (rc1 : Nat → Int32 → Int32 → Int32 → Int32 → ab_S → Option (Int64 × ab_S)) (k1 : Nat) (x2 : Int32) (x3 : Int32) (x4 : Int32) (x5 : Int32) (σ : ab_S) : Option (Int64 × ab_S) := (if x3 < (σ.1 1 0 5) then fX1_guestActs_b16 rc0 rc1 k1 x2 x3 x4 x5 0 σ else fX1_guestActs_b16 rc0 rc1 k1 x2 x3 x4 x5 1 σ)
def fX1_hostActs_b9 (rc0 : Nat → Int32 → Int32 → Int32 → Int32 → ab_S → Option (Int64 × ab_S)) (rc1 : Nat → Int32 → Int32 → Int32 → Int32 → ab_S → Option (Int64 × ab_S)) (σ : ab_S) : Option (Int64 × ab_S) := some (0, σ)
def fX1_hostActs_b167 (rc0 : Nat → Int32 → Int32 → Int32 → Int32 → ab_S → Option (Int64 × ab_S)) (rc1 : Nat → Int32 → Int32 → Int32 → Int32 → ab_S → Option (Int64 × ab_S)) (t0 : Int64) (σ : ab_S) : Option (Int64 × ab_S) := some (t0, σ)
def fX1_hostActs_b130 (rc0 : Nat → Int32 → Int32 → Int32 → Int32 → ab_S → Option (Int64 × ab_S)) (rc1 : Nat → Int32 → Int32 → Int32 → Int32 → ab_S → Option (Int64 × ab_S)) (kk50 : Nat → Int32 → Int32 → Int32 → Int32 → Int64 → Int64 → Int32 → ab_S → Option (Int64 × ab_S)) (c1 : Nat) (v2 : Int32) (v3 : Int32) (v4 : Int32) (v5 : Int32) (v6 : Int64) (v8 : Int64) (v10 : Int32) (σ : ab_S) : Option (Int64 × ab_S) := kk50 c1 v2 v3 v4 v5 v6 v8 (v10 + 1) σ
def fX1_hostActs_b50_o (rc0 : Nat → Int32 → Int32 → Int32 → Int32 → ab_S → Option (Int64 × ab_S)) (rc1 : Nat → Int32 → Int32 → Int32 → Int32 → ab_S → Option (Int64 × ab_S)) (kk50 : Nat → Int32 → Int32 → Int32 → Int32 → Int64 → Int64 → Int32 → ab_S → Option (Int64 × ab_S)) (c1 : Nat) (v2 : Int32) (v3 : Int32) (v4 : Int32) (v5 : Int32) (v6 : Int64) (v8 : Int64) (v10 : Int32) (σ : ab_S) : Option (Int64 × ab_S) := (if (σ.1 1 0 3) ≤ v10 then (fX1_pass v3 v6 σ).bind fun q2 => (if q2.1 = 0 then fX1_hostActs_b167 rc0 rc1 v8 q2.2 else (rc0 c1 v2 (v3 + 1) v4 v5 q2.2).bind fun q4 => fX1_hostActs_b167 rc0 rc1 (v8 + q4.1) q4.2) else (if v10 = v5 then fX1_hostActs_b130 rc0 rc1 kk50 c1 v2 v3 v4 v5 v6 v8 v10 σ else (fX9_isIn v4 v10).bind fun q6 => (if q6 = 0 then (fX1_look c1 v3 v4 v5 v10 (v6 / 12) σ).bind fun q8 => (if q8.1 = 0 then fX1_hostActs_b130 rc0 rc1 kk50 c1 v2 v3 v4 v5 (v6 / 12) v8 v10 q8.2 else (rc0 c1 v2 (v3 + 1) (v4 ||| (1 <<< (v10 &&& 31))) v5 q8.2).bind fun q10 => fX1_hostActs_b130 rc0 rc1 kk50 c1 v2 v3 v4 v5 (v6 / 12) (v8 + q10.1) v10 q10.2) else fX1_hostActs_b130 rc0 rc1 kk50 c1 v2 v3 v4 v5 v6 v8 v10 σ)))
def fX1_hostActs_b50 (rc0 : Nat → Int32 → Int32 → Int32 → Int32 → ab_S → Option (Int64 × ab_S)) (rc1 : Nat → Int32 → Int32 → Int32 → Int32 → ab_S → Option (Int64 × ab_S)) : Nat → Nat → Int32 → Int32 → Int32 → Int32 → Int64 → Int64 → Int32 → ab_S → Option (Int64 × ab_S)
  | 0 => fun _ _ _ _ _ _ _ _ _ => none
  | n + 1 => fX1_hostActs_b50_o rc0 rc1 (fX1_hostActs_b50 rc0 rc1 n)
def fX1_hostActs_o (rc0 : Nat → Int32 → Int32 → Int32 → Int32 → ab_S → Option (Int64 × ab_S)) (rc1 : Nat → Int32 → Int32 → Int32 → Int32 → ab_S → Option (Int64 × ab_S)) (k1 : Nat) (x2 : Int32) (x3 : Int32) (x4 : Int32) (x5 : Int32) (σ : ab_S) : Option (Int64 × ab_S) := (if x3 < 0 then fX1_hostActs_b9 rc0 rc1 σ else (if x3 < 3 then (if ab_inb x3 4 = true then (if ab_inb x3 3 = true then (if ab_cpb 0 0 (σ.1 1 0 3) 5 5 = true then ab_k (ab_cl σ 29 x3.toNatClampNeg ((0 : Int32).toNatClampNeg) 31 x3.toNatClampNeg ((0 : Int32).toNatClampNeg) ((σ.1 1 0 3 : Int32).toNatClampNeg)) fun σ6 => (fX7_wholeAct σ6).bind fun q7 => fX1_hostActs_b50 rc0 rc1 ab_N k1 x2 x3 x4 x5 q7 0 0 σ6 else none) else none) else none) else fX1_hostActs_b9 rc0 rc1 σ))
def fzX1_guestActs : Nat → (Nat → Int32 → Int32 → Int32 → Int32 → ab_S → Option (Int64 × ab_S)) × (Nat → Int32 → Int32 → Int32 → Int32 → ab_S → Option (Int64 × ab_S))
  | 0 => (fun _ _ _ _ _ _ => none, fun _ _ _ _ _ _ => none)
  | n + 1 => (fX1_guestActs_o ((fzX1_guestActs n).1) ((fzX1_guestActs n).2), fX1_hostActs_o ((fzX1_guestActs n).1) ((fzX1_guestActs n).2))
def fX1_guestActs (n : Nat) (k1 : Nat) (x2 : Int32) (x3 : Int32) (x4 : Int32) (x5 : Int32) (σ : ab_S) : Option (Int64 × ab_S) := (fzX1_guestActs n).1 k1 x2 x3 x4 x5 σ
def fX1_hostActs (n : Nat) (k1 : Nat) (x2 : Int32) (x3 : Int32) (x4 : Int32) (x5 : Int32) (σ : ab_S) : Option (Int64 × ab_S) := (fzX1_guestActs n).2 k1 x2 x3 x4 x5 σ
section
variable {p : Program} {l : Launch} {e : Env} {s : State} {m : MethodId} {args : Array Value} {below : List Frame} {meth : Method} {c : Code} {D : va_G} {cA : Nat → ClassId} {ad : Nat → Nat → Nat}
set_option maxRecDepth 100000 in
set_option maxHeartbeats 4000000 in
theorem gX1_guestActs_b163 {n : Nat} {R : (Int64 × ab_S)} {rc0 : Nat → Int32 → Int32 → Int32 → Int32 → ab_S → Option (Int64 × ab_S)} {rc1 : Nat → Int32 → Int32 → Int32 → Int32 → ab_S → Option (Int64 × ab_S)} (C : ab_C yC p s m args meth c D cA ad cX1_guestActs 10 RX1 (some .long)) (hrec : (∀ (k1 : Nat) (x2 : Int32) (x3 : Int32) (x4 : Int32) (x5 : Int32) (σ : ab_S), k1 < 4 → ∀ (R : (Int64 × ab_S)), rc0 k1 x2 x3 x4 x5 σ = some R → ab_M l yC yX1_guestActs cX1_guestActs 10 (some .long) (4 + n) [.inr (.inr (21, 0)), .inr (.inr (23, k1)), .inl x2, .inl x3, .inl x4, .inl x5] σ (some (.inr (.inl R.1))) R.2) ∧ (∀ (k1 : Nat) (x2 : Int32) (x3 : Int32) (x4 : Int32) (x5 : Int32) (σ : ab_S), k1 < 4 → ∀ (R : (Int64 × ab_S)), rc1 k1 x2 x3 x4 x5 σ = some R → ab_M l yC yX1_hostActs cX1_hostActs 11 (some .long) (4 + n) [.inr (.inr (21, 0)), .inr (.inr (23, k1)), .inl x2, .inl x3, .inl x4, .inl x5] σ (some (.inr (.inl R.1))) R.2)) {kk103 : Nat → Int32 → Int32 → Int32 → Int32 → Int64 → Int32 → ab_S → Option (Int64 × ab_S)} (hk103 : ∀ (c1 : Nat) (v2 : Int32) (v3 : Int32) (v4 : Int32) (v6 : Int32) (v7 : Int64) (v9 : Int32) (σ : ab_S), c1 < 4 → kk103 c1 v2 v3 v4 v6 v7 v9 σ = some R → ab_G yC p l e s m args below meth c D cA ad 10 (4 + n + 1) (some (.inr (.inl R.1))) R.2 103 [some (.inr (.inr (21, 0))), some (.inr (.inr (23, c1))), some (.inl v2), some (.inl v3), some (.inl v4), none, some (.inl v6), some (.inr (.inl v7)), none, some (.inl v9)] [] σ) (c1 : Nat) (v2 : Int32) (v3 : Int32) (v4 : Int32) (v6 : Int32) (v7 : Int64) (v9 : Int32) (σ : ab_S) (mc1 : c1 < 4) (h : fX1_guestActs_b163 rc0 rc1 kk103 c1 v2 v3 v4 v6 v7 v9 σ = some R) : ab_G yC p l e s m args below meth c D cA ad 10 (4 + n + 1) (some (.inr (.inl R.1))) R.2 163 [some (.inr (.inr (21, 0))), some (.inr (.inr (23, c1))), some (.inl v2), some (.inl v3), some (.inl v4), none, some (.inl v6), some (.inr (.inl v7)), none, some (.inl v9)] [] σ := by
  refine ab_iinc C dX1_guestActs_163 rfl (v := 1) rfl (Nat.le_of_ble_eq_true rfl) ?_
  refine ab_goto C (tgt := 103) dX1_guestActs_166 (by decide) ?_
  refine ab_weak (lv' := [some (.inr (.inr (21, 0))), some (.inr (.inr (23, c1))), some (.inl v2), some (.inl v3), some (.inl v4), none, some (.inl v6), some (.inr (.inl v7)), none, some (.inl (v9 + 1))]) ⟨.inr rfl, ⟨.inr rfl, ⟨.inr rfl, ⟨.inr rfl, ⟨.inr rfl, ⟨.inl rfl, ⟨.inr rfl, ⟨.inr rfl, ⟨.inl rfl, ⟨.inr rfl, trivial⟩⟩⟩⟩⟩⟩⟩⟩⟩⟩ ?_
  exact hk103 _ _ _ _ _ _ _ _ (mc1) h
set_option maxRecDepth 100000 in
set_option maxHeartbeats 4000000 in
theorem gX1_guestActs_b158 {n : Nat} {R : (Int64 × ab_S)} {rc0 : Nat → Int32 → Int32 → Int32 → Int32 → ab_S → Option (Int64 × ab_S)} {rc1 : Nat → Int32 → Int32 → Int32 → Int32 → ab_S → Option (Int64 × ab_S)} (C : ab_C yC p s m args meth c D cA ad cX1_guestActs 10 RX1 (some .long)) (hrec : (∀ (k1 : Nat) (x2 : Int32) (x3 : Int32) (x4 : Int32) (x5 : Int32) (σ : ab_S), k1 < 4 → ∀ (R : (Int64 × ab_S)), rc0 k1 x2 x3 x4 x5 σ = some R → ab_M l yC yX1_guestActs cX1_guestActs 10 (some .long) (4 + n) [.inr (.inr (21, 0)), .inr (.inr (23, k1)), .inl x2, .inl x3, .inl x4, .inl x5] σ (some (.inr (.inl R.1))) R.2) ∧ (∀ (k1 : Nat) (x2 : Int32) (x3 : Int32) (x4 : Int32) (x5 : Int32) (σ : ab_S), k1 < 4 → ∀ (R : (Int64 × ab_S)), rc1 k1 x2 x3 x4 x5 σ = some R → ab_M l yC yX1_hostActs cX1_hostActs 11 (some .long) (4 + n) [.inr (.inr (21, 0)), .inr (.inr (23, k1)), .inl x2, .inl x3, .inl x4, .inl x5] σ (some (.inr (.inl R.1))) R.2)) {kk103 : Nat → Int32 → Int32 → Int32 → Int32 → Int64 → Int32 → ab_S → Option (Int64 × ab_S)} (hk103 : ∀ (c1 : Nat) (v2 : Int32) (v3 : Int32) (v4 : Int32) (v6 : Int32) (v7 : Int64) (v9 : Int32) (σ : ab_S), c1 < 4 → kk103 c1 v2 v3 v4 v6 v7 v9 σ = some R → ab_G yC p l e s m args below meth c D cA ad 10 (4 + n + 1) (some (.inr (.inl R.1))) R.2 103 [some (.inr (.inr (21, 0))), some (.inr (.inr (23, c1))), some (.inl v2), some (.inl v3), some (.inl v4), none, some (.inl v6), some (.inr (.inl v7)), none, some (.inl v9)] [] σ) (c1 : Nat) (v2 : Int32) (v3 : Int32) (v4 : Int32) (v6 : Int32) (v9 : Int32) (t0 : Int64) (t1 : Int64) (σ : ab_S) (mc1 : c1 < 4) (h : fX1_guestActs_b158 rc0 rc1 kk103 c1 v2 v3 v4 v6 v9 t0 t1 σ = some R) : ab_G yC p l e s m args below meth c D cA ad 10 (4 + n + 1) (some (.inr (.inl R.1))) R.2 158 [some (.inr (.inr (21, 0))), some (.inr (.inr (23, c1))), some (.inl v2), some (.inl v3), some (.inl v4), none, some (.inl v6), none, none, some (.inl v9)] [.inr (.inl t1), .inr (.inl t0)] σ := by
  refine ab_lmax C dX1_guestActs_158 mlX1_164 sw_lmax kw_lmax (by omega) (Nat.le_of_ble_eq_true rfl) ?_
  refine ab_lstore C dX1_guestActs_161 (Nat.le_of_ble_eq_true rfl) ?_
  refine ab_weak (lv' := [some (.inr (.inr (21, 0))), some (.inr (.inr (23, c1))), some (.inl v2), some (.inl v3), some (.inl v4), none, some (.inl v6), some (.inr (.inl (if t1 < t0 then t0 else t1))), none, some (.inl v9)]) ⟨.inr rfl, ⟨.inr rfl, ⟨.inr rfl, ⟨.inr rfl, ⟨.inr rfl, ⟨.inl rfl, ⟨.inr rfl, ⟨.inr rfl, ⟨.inl rfl, ⟨.inr rfl, trivial⟩⟩⟩⟩⟩⟩⟩⟩⟩⟩ ?_
  exact gX1_guestActs_b163 C hrec hk103 _ _ _ _ _ _ _ _ (mc1) h
set_option maxRecDepth 100000 in
set_option maxHeartbeats 4000000 in
theorem gX1_guestActs_b103_o {n : Nat} {R : (Int64 × ab_S)} {rc0 : Nat → Int32 → Int32 → Int32 → Int32 → ab_S → Option (Int64 × ab_S)} {rc1 : Nat → Int32 → Int32 → Int32 → Int32 → ab_S → Option (Int64 × ab_S)} (C : ab_C yC p s m args meth c D cA ad cX1_guestActs 10 RX1 (some .long)) (hrec : (∀ (k1 : Nat) (x2 : Int32) (x3 : Int32) (x4 : Int32) (x5 : Int32) (σ : ab_S), k1 < 4 → ∀ (R : (Int64 × ab_S)), rc0 k1 x2 x3 x4 x5 σ = some R → ab_M l yC yX1_guestActs cX1_guestActs 10 (some .long) (4 + n) [.inr (.inr (21, 0)), .inr (.inr (23, k1)), .inl x2, .inl x3, .inl x4, .inl x5] σ (some (.inr (.inl R.1))) R.2) ∧ (∀ (k1 : Nat) (x2 : Int32) (x3 : Int32) (x4 : Int32) (x5 : Int32) (σ : ab_S), k1 < 4 → ∀ (R : (Int64 × ab_S)), rc1 k1 x2 x3 x4 x5 σ = some R → ab_M l yC yX1_hostActs cX1_hostActs 11 (some .long) (4 + n) [.inr (.inr (21, 0)), .inr (.inr (23, k1)), .inl x2, .inl x3, .inl x4, .inl x5] σ (some (.inr (.inl R.1))) R.2)) {kk103 : Nat → Int32 → Int32 → Int32 → Int32 → Int64 → Int32 → ab_S → Option (Int64 × ab_S)} (hk103 : ∀ (c1 : Nat) (v2 : Int32) (v3 : Int32) (v4 : Int32) (v6 : Int32) (v7 : Int64) (v9 : Int32) (σ : ab_S), c1 < 4 → kk103 c1 v2 v3 v4 v6 v7 v9 σ = some R → ab_G yC p l e s m args below meth c D cA ad 10 (4 + n + 1) (some (.inr (.inl R.1))) R.2 103 [some (.inr (.inr (21, 0))), some (.inr (.inr (23, c1))), some (.inl v2), some (.inl v3), some (.inl v4), none, some (.inl v6), some (.inr (.inl v7)), none, some (.inl v9)] [] σ) (c1 : Nat) (v2 : Int32) (v3 : Int32) (v4 : Int32) (v6 : Int32) (v7 : Int64) (v9 : Int32) (σ : ab_S) (mc1 : c1 < 4) (h : fX1_guestActs_b103_o rc0 rc1 kk103 c1 v2 v3 v4 v6 v7 v9 σ = some R) : ab_G yC p l e s m args below meth c D cA ad 10 (4 + n + 1) (some (.inr (.inl R.1))) R.2 103 [some (.inr (.inr (21, 0))), some (.inr (.inr (23, c1))), some (.inl v2), some (.inl v3), some (.inl v4), none, some (.inl v6), some (.inr (.inl v7)), none, some (.inl v9)] [] σ := by
  refine ab_iload C dX1_guestActs_103 rfl ?_
  refine ab_aload_n C dX1_guestActs_105 rfl ?_
  refine ab_getR C dX1_guestActs_106 flX1_39 rkC_21 rfl mmC_21 ?_
  refine ab_getI C dX1_guestActs_109 flX1_47 rkC_1 rfl mmC_1 ?_
  refine ab_icmp_ge C (tgt := 169) dX1_guestActs_112 (by decide) (fun hc1 => ?_) (fun hc1 => ?_)
  · replace h := ab_pos hc1 h
    refine ab_lload C dX1_guestActs_169 rfl ?_
    obtain rfl := Option.some.inj h
    exact ab_lret C dX1_guestActs_171
  · replace h := ab_neg hc1 h
    refine ab_iload C dX1_guestActs_115 rfl ?_
    refine ab_iload C dX1_guestActs_117 rfl ?_
    obtain ⟨q2, hq2, h⟩ := ab_bind h
    refine ab_invSN1 C dX1_guestActs_119 nlX1_81 ysX9_isIn (tX9_isIn l _ _ _ hq2) (by omega) (Nat.le_of_ble_eq_true rfl) rfl (Nat.le_of_ble_eq_true rfl) ?_
    refine ab_if_eq C (tgt := 128) dX1_guestActs_122 (by decide) (fun hc3 => ?_) (fun hc3 => ?_)
    · replace h := ab_pos hc3 h
      refine ab_lload C dX1_guestActs_128 rfl ?_
      refine ab_iload C dX1_guestActs_130 rfl ?_
      refine ab_if_eq C (tgt := 147) dX1_guestActs_132 (by decide) (fun hc4 => ?_) (fun hc4 => ?_)
      · replace h := ab_pos hc4 h
        refine ab_aload_n C dX1_guestActs_147 rfl ?_
        refine ab_aload_n C dX1_guestActs_148 rfl ?_
        refine ab_iload_n C dX1_guestActs_149 rfl ?_
        refine ab_iload_n C dX1_guestActs_150 rfl ?_
        refine ab_iload C dX1_guestActs_151 rfl ?_
        refine ab_iload C dX1_guestActs_153 rfl ?_
        obtain ⟨q5, hq5, h⟩ := ab_bind h
        refine ab_inv1 C dX1_guestActs_155 mlX1_131 yvX1_hostActs rkC_21 ⟨_, _, rfl⟩ mmC_21 (hrec.2 _ _ _ _ _ _ (mc1) _ hq5) (by omega) (Nat.le_of_ble_eq_true rfl) rfl (Nat.le_of_ble_eq_true rfl) ?_
        refine ab_weak (lv' := [some (.inr (.inr (21, 0))), some (.inr (.inr (23, c1))), some (.inl v2), some (.inl v3), some (.inl v4), none, some (.inl v6), none, none, some (.inl v9)]) ⟨.inr rfl, ⟨.inr rfl, ⟨.inr rfl, ⟨.inr rfl, ⟨.inr rfl, ⟨.inl rfl, ⟨.inr rfl, ⟨.inl rfl, ⟨.inl rfl, ⟨.inr rfl, trivial⟩⟩⟩⟩⟩⟩⟩⟩⟩⟩ ?_
        exact gX1_guestActs_b158 C hrec hk103 _ _ _ _ _ _ _ _ _ (mc1) h
      · replace h := ab_neg hc4 h
        refine ab_aload_n C dX1_guestActs_135 rfl ?_
        refine ab_getR C dX1_guestActs_136 flX1_23 rkC_21 rfl mmC_21 ?_
        refine ab_iload_n C dX1_guestActs_139 rfl ?_
        obtain ⟨hg6, h⟩ := ab_grd h
        refine ab_aald4 C dX1_guestActs_140 rkC_28 mmC_28 hg6 ?_
        refine ab_iload C dX1_guestActs_141 rfl ?_
        obtain ⟨hg7, h⟩ := ab_grd h
        refine ab_lald C dX1_guestActs_143 rkC_29 (mmC_29 (ab_inb_lt hg6)) hg7 ?_
        refine ab_goto C (tgt := 158) dX1_guestActs_144 (by decide) ?_
        refine ab_weak (lv' := [some (.inr (.inr (21, 0))), some (.inr (.inr (23, c1))), some (.inl v2), some (.inl v3), some (.inl v4), none, some (.inl v6), none, none, some (.inl v9)]) ⟨.inr rfl, ⟨.inr rfl, ⟨.inr rfl, ⟨.inr rfl, ⟨.inr rfl, ⟨.inl rfl, ⟨.inr rfl, ⟨.inl rfl, ⟨.inl rfl, ⟨.inr rfl, trivial⟩⟩⟩⟩⟩⟩⟩⟩⟩⟩ ?_
        exact gX1_guestActs_b158 C hrec hk103 _ _ _ _ _ _ _ _ _ (mc1) h
    · replace h := ab_neg hc3 h
      refine ab_goto C (tgt := 163) dX1_guestActs_125 (by decide) ?_
      refine ab_weak (lv' := [some (.inr (.inr (21, 0))), some (.inr (.inr (23, c1))), some (.inl v2), some (.inl v3), some (.inl v4), none, some (.inl v6), some (.inr (.inl v7)), none, some (.inl v9)]) ⟨.inr rfl, ⟨.inr rfl, ⟨.inr rfl, ⟨.inr rfl, ⟨.inr rfl, ⟨.inl rfl, ⟨.inr rfl, ⟨.inr rfl, ⟨.inl rfl, ⟨.inr rfl, trivial⟩⟩⟩⟩⟩⟩⟩⟩⟩⟩ ?_
      exact gX1_guestActs_b163 C hrec hk103 _ _ _ _ _ _ _ _ (mc1) h
theorem gX1_guestActs_b103 {n : Nat} {R : (Int64 × ab_S)} {rc0 : Nat → Int32 → Int32 → Int32 → Int32 → ab_S → Option (Int64 × ab_S)} {rc1 : Nat → Int32 → Int32 → Int32 → Int32 → ab_S → Option (Int64 × ab_S)} (C : ab_C yC p s m args meth c D cA ad cX1_guestActs 10 RX1 (some .long)) (hrec : (∀ (k1 : Nat) (x2 : Int32) (x3 : Int32) (x4 : Int32) (x5 : Int32) (σ : ab_S), k1 < 4 → ∀ (R : (Int64 × ab_S)), rc0 k1 x2 x3 x4 x5 σ = some R → ab_M l yC yX1_guestActs cX1_guestActs 10 (some .long) (4 + n) [.inr (.inr (21, 0)), .inr (.inr (23, k1)), .inl x2, .inl x3, .inl x4, .inl x5] σ (some (.inr (.inl R.1))) R.2) ∧ (∀ (k1 : Nat) (x2 : Int32) (x3 : Int32) (x4 : Int32) (x5 : Int32) (σ : ab_S), k1 < 4 → ∀ (R : (Int64 × ab_S)), rc1 k1 x2 x3 x4 x5 σ = some R → ab_M l yC yX1_hostActs cX1_hostActs 11 (some .long) (4 + n) [.inr (.inr (21, 0)), .inr (.inr (23, k1)), .inl x2, .inl x3, .inl x4, .inl x5] σ (some (.inr (.inl R.1))) R.2)) : ∀ (j : Nat) (c1 : Nat) (v2 : Int32) (v3 : Int32) (v4 : Int32) (v6 : Int32) (v7 : Int64) (v9 : Int32) (σ : ab_S), c1 < 4 → fX1_guestActs_b103 rc0 rc1 j c1 v2 v3 v4 v6 v7 v9 σ = some R → ab_G yC p l e s m args below meth c D cA ad 10 (4 + n + 1) (some (.inr (.inl R.1))) R.2 103 [some (.inr (.inr (21, 0))), some (.inr (.inr (23, c1))), some (.inl v2), some (.inl v3), some (.inl v4), none, some (.inl v6), some (.inr (.inl v7)), none, some (.inl v9)] [] σ := by
  intro j
  induction j with
  | zero => intro c1 v2 v3 v4 v6 v7 v9 σ hh0 h; cases h
  | succ j ih => intro c1 v2 v3 v4 v6 v7 v9 σ hh0 h; exact gX1_guestActs_b103_o C hrec ih _ _ _ _ _ _ _ _ hh0 h
set_option maxRecDepth 100000 in
set_option maxHeartbeats 4000000 in
theorem gX1_guestActs_b96 {n : Nat} {R : (Int64 × ab_S)} {rc0 : Nat → Int32 → Int32 → Int32 → Int32 → ab_S → Option (Int64 × ab_S)} {rc1 : Nat → Int32 → Int32 → Int32 → Int32 → ab_S → Option (Int64 × ab_S)} (C : ab_C yC p s m args meth c D cA ad cX1_guestActs 10 RX1 (some .long)) (hrec : (∀ (k1 : Nat) (x2 : Int32) (x3 : Int32) (x4 : Int32) (x5 : Int32) (σ : ab_S), k1 < 4 → ∀ (R : (Int64 × ab_S)), rc0 k1 x2 x3 x4 x5 σ = some R → ab_M l yC yX1_guestActs cX1_guestActs 10 (some .long) (4 + n) [.inr (.inr (21, 0)), .inr (.inr (23, k1)), .inl x2, .inl x3, .inl x4, .inl x5] σ (some (.inr (.inl R.1))) R.2) ∧ (∀ (k1 : Nat) (x2 : Int32) (x3 : Int32) (x4 : Int32) (x5 : Int32) (σ : ab_S), k1 < 4 → ∀ (R : (Int64 × ab_S)), rc1 k1 x2 x3 x4 x5 σ = some R → ab_M l yC yX1_hostActs cX1_hostActs 11 (some .long) (4 + n) [.inr (.inr (21, 0)), .inr (.inr (23, k1)), .inl x2, .inl x3, .inl x4, .inl x5] σ (some (.inr (.inl R.1))) R.2)) (t0 : Int64) (σ : ab_S) (h : fX1_guestActs_b96 rc0 rc1 t0 σ = some R) : ab_G yC p l e s m args below meth c D cA ad 10 (4 + n + 1) (some (.inr (.inl R.1))) R.2 96 [none, none, none, none, none, none, none, none, none, none] [.inr (.inl t0)] σ := by
  obtain rfl := Option.some.inj h
  exact ab_lret C dX1_guestActs_96
set_option maxRecDepth 100000 in
set_option maxHeartbeats 4000000 in
theorem gX1_guestActs_b66 {n : Nat} {R : (Int64 × ab_S)} {rc0 : Nat → Int32 → Int32 → Int32 → Int32 → ab_S → Option (Int64 × ab_S)} {rc1 : Nat → Int32 → Int32 → Int32 → Int32 → ab_S → Option (Int64 × ab_S)} (C : ab_C yC p s m args meth c D cA ad cX1_guestActs 10 RX1 (some .long)) (hrec : (∀ (k1 : Nat) (x2 : Int32) (x3 : Int32) (x4 : Int32) (x5 : Int32) (σ : ab_S), k1 < 4 → ∀ (R : (Int64 × ab_S)), rc0 k1 x2 x3 x4 x5 σ = some R → ab_M l yC yX1_guestActs cX1_guestActs 10 (some .long) (4 + n) [.inr (.inr (21, 0)), .inr (.inr (23, k1)), .inl x2, .inl x3, .inl x4, .inl x5] σ (some (.inr (.inl R.1))) R.2) ∧ (∀ (k1 : Nat) (x2 : Int32) (x3 : Int32) (x4 : Int32) (x5 : Int32) (σ : ab_S), k1 < 4 → ∀ (R : (Int64 × ab_S)), rc1 k1 x2 x3 x4 x5 σ = some R → ab_M l yC yX1_hostActs cX1_hostActs 11 (some .long) (4 + n) [.inr (.inr (21, 0)), .inr (.inr (23, k1)), .inl x2, .inl x3, .inl x4, .inl x5] σ (some (.inr (.inl R.1))) R.2)) (c1 : Nat) (v2 : Int32) (v3 : Int32) (v4 : Int32) (v6 : Int32) (t0 : Int32) (σ : ab_S) (mc1 : c1 < 4) (h : fX1_guestActs_b66 rc0 rc1 c1 v2 v3 v4 v6 t0 σ = some R) : ab_G yC p l e s m args below meth c D cA ad 10 (4 + n + 1) (some (.inr (.inl R.1))) R.2 66 [some (.inr (.inr (21, 0))), some (.inr (.inr (23, c1))), some (.inl v2), some (.inl v3), some (.inl v4), none, some (.inl v6), none, none, none] [.inl t0] σ := by
  refine ab_istore C dX1_guestActs_66 (Nat.le_of_ble_eq_true rfl) ?_
  refine ab_iload C dX1_guestActs_68 rfl ?_
  refine ab_if_eq C (tgt := 85) dX1_guestActs_70 (by decide) (fun hc1 => ?_) (fun hc1 => ?_)
  · replace h := ab_pos hc1 h
    refine ab_aload_n C dX1_guestActs_85 rfl ?_
    refine ab_aload_n C dX1_guestActs_86 rfl ?_
    refine ab_iload_n C dX1_guestActs_87 rfl ?_
    refine ab_iload_n C dX1_guestActs_88 rfl ?_
    refine ab_iload C dX1_guestActs_89 rfl ?_
    refine ab_iload C dX1_guestActs_91 rfl ?_
    obtain ⟨q2, hq2, h⟩ := ab_bind h
    refine ab_inv1 C dX1_guestActs_93 mlX1_131 yvX1_hostActs rkC_21 ⟨_, _, rfl⟩ mmC_21 (hrec.2 _ _ _ _ _ _ (mc1) _ hq2) (by omega) (Nat.le_of_ble_eq_true rfl) rfl (Nat.le_of_ble_eq_true rfl) ?_
    refine ab_weak (lv' := [none, none, none, none, none, none, none, none, none, none]) ⟨.inl rfl, ⟨.inl rfl, ⟨.inl rfl, ⟨.inl rfl, ⟨.inl rfl, ⟨.inl rfl, ⟨.inl rfl, ⟨.inl rfl, ⟨.inl rfl, ⟨.inl rfl, trivial⟩⟩⟩⟩⟩⟩⟩⟩⟩⟩ ?_
    exact gX1_guestActs_b96 C hrec _ _ h
  · replace h := ab_neg hc1 h
    refine ab_aload_n C dX1_guestActs_73 rfl ?_
    refine ab_getR C dX1_guestActs_74 flX1_23 rkC_21 rfl mmC_21 ?_
    refine ab_iload_n C dX1_guestActs_77 rfl ?_
    obtain ⟨hg3, h⟩ := ab_grd h
    refine ab_aald4 C dX1_guestActs_78 rkC_28 mmC_28 hg3 ?_
    refine ab_iload C dX1_guestActs_79 rfl ?_
    obtain ⟨hg4, h⟩ := ab_grd h
    refine ab_lald C dX1_guestActs_81 rkC_29 (mmC_29 (ab_inb_lt hg3)) hg4 ?_
    refine ab_goto C (tgt := 96) dX1_guestActs_82 (by decide) ?_
    refine ab_weak (lv' := [none, none, none, none, none, none, none, none, none, none]) ⟨.inl rfl, ⟨.inl rfl, ⟨.inl rfl, ⟨.inl rfl, ⟨.inl rfl, ⟨.inl rfl, ⟨.inl rfl, ⟨.inl rfl, ⟨.inl rfl, ⟨.inl rfl, trivial⟩⟩⟩⟩⟩⟩⟩⟩⟩⟩ ?_
    exact gX1_guestActs_b96 C hrec _ _ h
set_option maxRecDepth 100000 in
set_option maxHeartbeats 4000000 in
theorem gX1_guestActs_b43 {n : Nat} {R : (Int64 × ab_S)} {rc0 : Nat → Int32 → Int32 → Int32 → Int32 → ab_S → Option (Int64 × ab_S)} {rc1 : Nat → Int32 → Int32 → Int32 → Int32 → ab_S → Option (Int64 × ab_S)} (C : ab_C yC p s m args meth c D cA ad cX1_guestActs 10 RX1 (some .long)) (hrec : (∀ (k1 : Nat) (x2 : Int32) (x3 : Int32) (x4 : Int32) (x5 : Int32) (σ : ab_S), k1 < 4 → ∀ (R : (Int64 × ab_S)), rc0 k1 x2 x3 x4 x5 σ = some R → ab_M l yC yX1_guestActs cX1_guestActs 10 (some .long) (4 + n) [.inr (.inr (21, 0)), .inr (.inr (23, k1)), .inl x2, .inl x3, .inl x4, .inl x5] σ (some (.inr (.inl R.1))) R.2) ∧ (∀ (k1 : Nat) (x2 : Int32) (x3 : Int32) (x4 : Int32) (x5 : Int32) (σ : ab_S), k1 < 4 → ∀ (R : (Int64 × ab_S)), rc1 k1 x2 x3 x4 x5 σ = some R → ab_M l yC yX1_hostActs cX1_hostActs 11 (some .long) (4 + n) [.inr (.inr (21, 0)), .inr (.inr (23, k1)), .inl x2, .inl x3, .inl x4, .inl x5] σ (some (.inr (.inl R.1))) R.2)) (c1 : Nat) (v2 : Int32) (v3 : Int32) (v4 : Int32) (v5 : Int32) (v6 : Int32) (t0 : Int32) (σ : ab_S) (mc1 : c1 < 4) (h : fX1_guestActs_b43 rc0 rc1 c1 v2 v3 v4 v5 v6 t0 σ = some R) : ab_G yC p l e s m args below meth c D cA ad 10 (4 + n + 1) (some (.inr (.inl R.1))) R.2 43 [some (.inr (.inr (21, 0))), some (.inr (.inr (23, c1))), some (.inl v2), some (.inl v3), some (.inl v4), some (.inl v5), some (.inl v6), none, none, none] [.inl t0] σ := by
  refine ab_istore C dX1_guestActs_43 (Nat.le_of_ble_eq_true rfl) ?_
  refine ab_iload C dX1_guestActs_45 rfl ?_
  refine ab_if_eq C (tgt := 64) dX1_guestActs_47 (by decide) (fun hc1 => ?_) (fun hc1 => ?_)
  · replace h := ab_pos hc1 h
    refine ab_iload C dX1_guestActs_64 rfl ?_
    refine ab_weak (lv' := [some (.inr (.inr (21, 0))), some (.inr (.inr (23, c1))), some (.inl v2), some (.inl v3), some (.inl v4), none, some (.inl v6), none, none, none]) ⟨.inr rfl, ⟨.inr rfl, ⟨.inr rfl, ⟨.inr rfl, ⟨.inr rfl, ⟨.inl rfl, ⟨.inr rfl, ⟨.inl rfl, ⟨.inl rfl, ⟨.inl rfl, trivial⟩⟩⟩⟩⟩⟩⟩⟩⟩⟩ ?_
    exact gX1_guestActs_b66 C hrec _ _ _ _ _ _ _ (mc1) h
  · replace h := ab_neg hc1 h
    refine ab_aload_n C dX1_guestActs_50 rfl ?_
    refine ab_getR C dX1_guestActs_51 flX1_39 rkC_21 rfl mmC_21 ?_
    refine ab_iload C dX1_guestActs_54 rfl ?_
    refine ab_iload C dX1_guestActs_56 rfl ?_
    obtain ⟨q2, hq2, h⟩ := ab_bind h
    refine ab_inv1 C dX1_guestActs_58 mlX1_160 yvX7_leastOther rkC_1 ⟨_, _, rfl⟩ mmC_1 (tX7_leastOther l _ _ _ hq2) (by omega) (Nat.le_of_ble_eq_true rfl) rfl (Nat.le_of_ble_eq_true rfl) ?_
    refine ab_goto C (tgt := 66) dX1_guestActs_61 (by decide) ?_
    refine ab_weak (lv' := [some (.inr (.inr (21, 0))), some (.inr (.inr (23, c1))), some (.inl v2), some (.inl v3), some (.inl v4), none, some (.inl v6), none, none, none]) ⟨.inr rfl, ⟨.inr rfl, ⟨.inr rfl, ⟨.inr rfl, ⟨.inr rfl, ⟨.inl rfl, ⟨.inr rfl, ⟨.inl rfl, ⟨.inl rfl, ⟨.inl rfl, trivial⟩⟩⟩⟩⟩⟩⟩⟩⟩⟩ ?_
    exact gX1_guestActs_b66 C hrec _ _ _ _ _ _ _ (mc1) h
set_option maxRecDepth 100000 in
set_option maxHeartbeats 4000000 in
theorem gX1_guestActs_b38 {n : Nat} {R : (Int64 × ab_S)} {rc0 : Nat → Int32 → Int32 → Int32 → Int32 → ab_S → Option (Int64 × ab_S)} {rc1 : Nat → Int32 → Int32 → Int32 → Int32 → ab_S → Option (Int64 × ab_S)} (C : ab_C yC p s m args meth c D cA ad cX1_guestActs 10 RX1 (some .long)) (hrec : (∀ (k1 : Nat) (x2 : Int32) (x3 : Int32) (x4 : Int32) (x5 : Int32) (σ : ab_S), k1 < 4 → ∀ (R : (Int64 × ab_S)), rc0 k1 x2 x3 x4 x5 σ = some R → ab_M l yC yX1_guestActs cX1_guestActs 10 (some .long) (4 + n) [.inr (.inr (21, 0)), .inr (.inr (23, k1)), .inl x2, .inl x3, .inl x4, .inl x5] σ (some (.inr (.inl R.1))) R.2) ∧ (∀ (k1 : Nat) (x2 : Int32) (x3 : Int32) (x4 : Int32) (x5 : Int32) (σ : ab_S), k1 < 4 → ∀ (R : (Int64 × ab_S)), rc1 k1 x2 x3 x4 x5 σ = some R → ab_M l yC yX1_hostActs cX1_hostActs 11 (some .long) (4 + n) [.inr (.inr (21, 0)), .inr (.inr (23, k1)), .inl x2, .inl x3, .inl x4, .inl x5] σ (some (.inr (.inl R.1))) R.2)) (c1 : Nat) (v2 : Int32) (v3 : Int32) (v4 : Int32) (v5 : Int32) (v6 : Int32) (σ : ab_S) (mc1 : c1 < 4) (h : fX1_guestActs_b38 rc0 rc1 c1 v2 v3 v4 v5 v6 σ = some R) : ab_G yC p l e s m args below meth c D cA ad 10 (4 + n + 1) (some (.inr (.inl R.1))) R.2 38 [some (.inr (.inr (21, 0))), some (.inr (.inr (23, c1))), some (.inl v2), some (.inl v3), some (.inl v4), some (.inl v5), some (.inl v6), none, none, none] [] σ := by
  refine ab_iconst C dX1_guestActs_38 (v := 1) rfl ?_
  refine ab_goto C (tgt := 43) dX1_guestActs_39 (by decide) ?_
  refine ab_weak (lv' := [some (.inr (.inr (21, 0))), some (.inr (.inr (23, c1))), some (.inl v2), some (.inl v3), some (.inl v4), some (.inl v5), some (.inl v6), none, none, none]) ⟨.inr rfl, ⟨.inr rfl, ⟨.inr rfl, ⟨.inr rfl, ⟨.inr rfl, ⟨.inr rfl, ⟨.inr rfl, ⟨.inl rfl, ⟨.inl rfl, ⟨.inl rfl, trivial⟩⟩⟩⟩⟩⟩⟩⟩⟩⟩ ?_
  exact gX1_guestActs_b43 C hrec _ _ _ _ _ _ _ _ (mc1) h
set_option maxRecDepth 100000 in
set_option maxHeartbeats 4000000 in
theorem gX1_guestActs_b42 {n : Nat} {R : (Int64 × ab_S)} {rc0 : Nat → Int32 → Int32 → Int32 → Int32 → ab_S → Option (Int64 × ab_S)} {rc1 : Nat → Int32 → Int32 → Int32 → Int32 → ab_S → Option (Int64 × ab_S)} (C : ab_C yC p s m args meth c D cA ad cX1_guestActs 10 RX1 (some .long)) (hrec : (∀ (k1 : Nat) (x2 : Int32) (x3 : Int32) (x4 : Int32) (x5 : Int32) (σ : ab_S), k1 < 4 → ∀ (R : (Int64 × ab_S)), rc0 k1 x2 x3 x4 x5 σ = some R → ab_M l yC yX1_guestActs cX1_guestActs 10 (some .long) (4 + n) [.inr (.inr (21, 0)), .inr (.inr (23, k1)), .inl x2, .inl x3, .inl x4, .inl x5] σ (some (.inr (.inl R.1))) R.2) ∧ (∀ (k1 : Nat) (x2 : Int32) (x3 : Int32) (x4 : Int32) (x5 : Int32) (σ : ab_S), k1 < 4 → ∀ (R : (Int64 × ab_S)), rc1 k1 x2 x3 x4 x5 σ = some R → ab_M l yC yX1_hostActs cX1_hostActs 11 (some .long) (4 + n) [.inr (.inr (21, 0)), .inr (.inr (23, k1)), .inl x2, .inl x3, .inl x4, .inl x5] σ (some (.inr (.inl R.1))) R.2)) (c1 : Nat) (v2 : Int32) (v3 : Int32) (v4 : Int32) (v5 : Int32) (v6 : Int32) (σ : ab_S) (mc1 : c1 < 4) (h : fX1_guestActs_b42 rc0 rc1 c1 v2 v3 v4 v5 v6 σ = some R) : ab_G yC p l e s m args below meth c D cA ad 10 (4 + n + 1) (some (.inr (.inl R.1))) R.2 42 [some (.inr (.inr (21, 0))), some (.inr (.inr (23, c1))), some (.inl v2), some (.inl v3), some (.inl v4), some (.inl v5), some (.inl v6), none, none, none] [] σ := by
  refine ab_iconst C dX1_guestActs_42 (v := 0) rfl ?_
  refine ab_weak (lv' := [some (.inr (.inr (21, 0))), some (.inr (.inr (23, c1))), some (.inl v2), some (.inl v3), some (.inl v4), some (.inl v5), some (.inl v6), none, none, none]) ⟨.inr rfl, ⟨.inr rfl, ⟨.inr rfl, ⟨.inr rfl, ⟨.inr rfl, ⟨.inr rfl, ⟨.inr rfl, ⟨.inl rfl, ⟨.inl rfl, ⟨.inl rfl, trivial⟩⟩⟩⟩⟩⟩⟩⟩⟩⟩ ?_
  exact gX1_guestActs_b43 C hrec _ _ _ _ _ _ _ _ (mc1) h
set_option maxRecDepth 100000 in
set_option maxHeartbeats 4000000 in
theorem gX1_guestActs_b16 {n : Nat} {R : (Int64 × ab_S)} {rc0 : Nat → Int32 → Int32 → Int32 → Int32 → ab_S → Option (Int64 × ab_S)} {rc1 : Nat → Int32 → Int32 → Int32 → Int32 → ab_S → Option (Int64 × ab_S)} (C : ab_C yC p s m args meth c D cA ad cX1_guestActs 10 RX1 (some .long)) (hrec : (∀ (k1 : Nat) (x2 : Int32) (x3 : Int32) (x4 : Int32) (x5 : Int32) (σ : ab_S), k1 < 4 → ∀ (R : (Int64 × ab_S)), rc0 k1 x2 x3 x4 x5 σ = some R → ab_M l yC yX1_guestActs cX1_guestActs 10 (some .long) (4 + n) [.inr (.inr (21, 0)), .inr (.inr (23, k1)), .inl x2, .inl x3, .inl x4, .inl x5] σ (some (.inr (.inl R.1))) R.2) ∧ (∀ (k1 : Nat) (x2 : Int32) (x3 : Int32) (x4 : Int32) (x5 : Int32) (σ : ab_S), k1 < 4 → ∀ (R : (Int64 × ab_S)), rc1 k1 x2 x3 x4 x5 σ = some R → ab_M l yC yX1_hostActs cX1_hostActs 11 (some .long) (4 + n) [.inr (.inr (21, 0)), .inr (.inr (23, k1)), .inl x2, .inl x3, .inl x4, .inl x5] σ (some (.inr (.inl R.1))) R.2)) (c1 : Nat) (v2 : Int32) (v3 : Int32) (v4 : Int32) (v5 : Int32) (t0 : Int32) (σ : ab_S) (mc1 : c1 < 4) (h : fX1_guestActs_b16 rc0 rc1 c1 v2 v3 v4 v5 t0 σ = some R) : ab_G yC p l e s m args below meth c D cA ad 10 (4 + n + 1) (some (.inr (.inl R.1))) R.2 16 [some (.inr (.inr (21, 0))), some (.inr (.inr (23, c1))), some (.inl v2), some (.inl v3), some (.inl v4), some (.inl v5), none, none, none, none] [.inl t0] σ := by
  refine ab_istore C dX1_guestActs_16 (Nat.le_of_ble_eq_true rfl) ?_
  refine ab_iload_n C dX1_guestActs_18 rfl ?_
  refine ab_iconst C dX1_guestActs_19 (v := 3) rfl ?_
  refine ab_icmp_eq C (tgt := 97) dX1_guestActs_20 (by decide) (fun hc1 => ?_) (fun hc1 => ?_)
  · replace h := ab_pos hc1 h
    refine ab_lconst C dX1_guestActs_97 (v := 0) rfl ?_
    refine ab_lstore C dX1_guestActs_98 (Nat.le_of_ble_eq_true rfl) ?_
    refine ab_iconst C dX1_guestActs_100 (v := 0) rfl ?_
    refine ab_istore C dX1_guestActs_101 (Nat.le_of_ble_eq_true rfl) ?_
    refine ab_weak (lv' := [some (.inr (.inr (21, 0))), some (.inr (.inr (23, c1))), some (.inl v2), some (.inl v3), some (.inl v4), some (.inl v5), some (.inl t0), some (.inr (.inl 0)), none, some (.inl 0)]) ⟨.inr rfl, ⟨.inr rfl, ⟨.inr rfl, ⟨.inr rfl, ⟨.inr rfl, ⟨.inr rfl, ⟨.inr rfl, ⟨.inr rfl, ⟨.inl rfl, ⟨.inr rfl, trivial⟩⟩⟩⟩⟩⟩⟩⟩⟩⟩ ?_
    refine ab_weak (lv' := [some (.inr (.inr (21, 0))), some (.inr (.inr (23, c1))), some (.inl v2), some (.inl v3), some (.inl v4), none, some (.inl t0), some (.inr (.inl 0)), none, some (.inl 0)]) ⟨.inr rfl, ⟨.inr rfl, ⟨.inr rfl, ⟨.inr rfl, ⟨.inr rfl, ⟨.inl rfl, ⟨.inr rfl, ⟨.inr rfl, ⟨.inl rfl, ⟨.inr rfl, trivial⟩⟩⟩⟩⟩⟩⟩⟩⟩⟩ ?_
    exact gX1_guestActs_b103 C hrec ab_N _ _ _ _ _ _ _ _ (mc1) h
  · replace h := ab_neg hc1 h
    refine ab_iload_n C dX1_guestActs_23 rfl ?_
    refine ab_iconst C dX1_guestActs_24 (v := 2) rfl ?_
    refine ab_icmp_eq C (tgt := 38) dX1_guestActs_25 (by decide) (fun hc2 => ?_) (fun hc2 => ?_)
    · replace h := ab_pos hc2 h
      refine ab_weak (lv' := [some (.inr (.inr (21, 0))), some (.inr (.inr (23, c1))), some (.inl v2), some (.inl v3), some (.inl v4), some (.inl v5), some (.inl t0), none, none, none]) ⟨.inr rfl, ⟨.inr rfl, ⟨.inr rfl, ⟨.inr rfl, ⟨.inr rfl, ⟨.inr rfl, ⟨.inr rfl, ⟨.inl rfl, ⟨.inl rfl, ⟨.inl rfl, trivial⟩⟩⟩⟩⟩⟩⟩⟩⟩⟩ ?_
      exact gX1_guestActs_b38 C hrec _ _ _ _ _ _ _ (mc1) h
    · replace h := ab_neg hc2 h
      refine ab_iload_n C dX1_guestActs_28 rfl ?_
      refine ab_iconst C dX1_guestActs_29 (v := 1) rfl ?_
      refine ab_icmp_ne C (tgt := 42) dX1_guestActs_30 (by decide) (fun hc3 => ?_) (fun hc3 => ?_)
      · replace h := ab_neg hc3 h
        refine ab_weak (lv' := [some (.inr (.inr (21, 0))), some (.inr (.inr (23, c1))), some (.inl v2), some (.inl v3), some (.inl v4), some (.inl v5), some (.inl t0), none, none, none]) ⟨.inr rfl, ⟨.inr rfl, ⟨.inr rfl, ⟨.inr rfl, ⟨.inr rfl, ⟨.inr rfl, ⟨.inr rfl, ⟨.inl rfl, ⟨.inl rfl, ⟨.inl rfl, trivial⟩⟩⟩⟩⟩⟩⟩⟩⟩⟩ ?_
        exact gX1_guestActs_b42 C hrec _ _ _ _ _ _ _ (mc1) h
      · replace h := ab_pos hc3 h
        refine ab_iload C dX1_guestActs_33 rfl ?_
        refine ab_if_eq C (tgt := 42) dX1_guestActs_35 (by decide) (fun hc4 => ?_) (fun hc4 => ?_)
        · replace h := ab_pos hc4 h
          refine ab_weak (lv' := [some (.inr (.inr (21, 0))), some (.inr (.inr (23, c1))), some (.inl v2), some (.inl v3), some (.inl v4), some (.inl v5), some (.inl t0), none, none, none]) ⟨.inr rfl, ⟨.inr rfl, ⟨.inr rfl, ⟨.inr rfl, ⟨.inr rfl, ⟨.inr rfl, ⟨.inr rfl, ⟨.inl rfl, ⟨.inl rfl, ⟨.inl rfl, trivial⟩⟩⟩⟩⟩⟩⟩⟩⟩⟩ ?_
          exact gX1_guestActs_b42 C hrec _ _ _ _ _ _ _ (mc1) h
        · replace h := ab_neg hc4 h
          refine ab_weak (lv' := [some (.inr (.inr (21, 0))), some (.inr (.inr (23, c1))), some (.inl v2), some (.inl v3), some (.inl v4), some (.inl v5), some (.inl t0), none, none, none]) ⟨.inr rfl, ⟨.inr rfl, ⟨.inr rfl, ⟨.inr rfl, ⟨.inr rfl, ⟨.inr rfl, ⟨.inr rfl, ⟨.inl rfl, ⟨.inl rfl, ⟨.inl rfl, trivial⟩⟩⟩⟩⟩⟩⟩⟩⟩⟩ ?_
          exact gX1_guestActs_b38 C hrec _ _ _ _ _ _ _ (mc1) h
set_option maxRecDepth 100000 in
set_option maxHeartbeats 4000000 in
theorem tX1_guestActs_o (l : Launch) {n : Nat} {rc0 : Nat → Int32 → Int32 → Int32 → Int32 → ab_S → Option (Int64 × ab_S)} {rc1 : Nat → Int32 → Int32 → Int32 → Int32 → ab_S → Option (Int64 × ab_S)} (hrec : (∀ (k1 : Nat) (x2 : Int32) (x3 : Int32) (x4 : Int32) (x5 : Int32) (σ : ab_S), k1 < 4 → ∀ (R : (Int64 × ab_S)), rc0 k1 x2 x3 x4 x5 σ = some R → ab_M l yC yX1_guestActs cX1_guestActs 10 (some .long) (4 + n) [.inr (.inr (21, 0)), .inr (.inr (23, k1)), .inl x2, .inl x3, .inl x4, .inl x5] σ (some (.inr (.inl R.1))) R.2) ∧ (∀ (k1 : Nat) (x2 : Int32) (x3 : Int32) (x4 : Int32) (x5 : Int32) (σ : ab_S), k1 < 4 → ∀ (R : (Int64 × ab_S)), rc1 k1 x2 x3 x4 x5 σ = some R → ab_M l yC yX1_hostActs cX1_hostActs 11 (some .long) (4 + n) [.inr (.inr (21, 0)), .inr (.inr (23, k1)), .inl x2, .inl x3, .inl x4, .inl x5] σ (some (.inr (.inl R.1))) R.2)) (k1 : Nat) (x2 : Int32) (x3 : Int32) (x4 : Int32) (x5 : Int32) (σ : ab_S) (hk1 : k1 < 4) {R : (Int64 × ab_S)} (h : fX1_guestActs_o rc0 rc1 k1 x2 x3 x4 x5 σ = some R) : ab_M l yC yX1_guestActs cX1_guestActs 10 (some .long) (4 + n + 1) [.inr (.inr (21, 0)), .inr (.inr (23, k1)), .inl x2, .inl x3, .inl x4, .inl x5] σ (some (.inr (.inl R.1))) R.2 := by
  refine ab_M_intro ndC (by decide) (Nat.le_of_ble_eq_true rfl) ?_
  intro p e s m args below meth c D cA ad C
  have C : ab_C yC p s m args meth c D cA ad cX1_guestActs 10 RX1 (some .long) := C
  refine ab_weak (lv' := [some (.inr (.inr (21, 0))), some (.inr (.inr (23, k1))), some (.inl x2), some (.inl x3), some (.inl x4), some (.inl x5), none, none, none, none]) ⟨.inr rfl, ⟨.inr rfl, ⟨.inr rfl, ⟨.inr rfl, ⟨.inr rfl, ⟨.inr rfl, ⟨.inl rfl, ⟨.inl rfl, ⟨.inl rfl, ⟨.inl rfl, trivial⟩⟩⟩⟩⟩⟩⟩⟩⟩⟩ ?_
  refine ab_iload_n C dX1_guestActs_0 rfl ?_
  refine ab_aload_n C dX1_guestActs_1 rfl ?_
  refine ab_getR C dX1_guestActs_2 flX1_39 rkC_21 rfl mmC_21 ?_
  refine ab_getI C dX1_guestActs_5 flX1_157 rkC_1 rfl mmC_1 ?_
  refine ab_icmp_lt C (tgt := 15) dX1_guestActs_8 (by decide) (fun hc1 => ?_) (fun hc1 => ?_)
  · replace h := ab_pos hc1 h
    refine ab_iconst C dX1_guestActs_15 (v := 0) rfl ?_
    refine ab_weak (lv' := [some (.inr (.inr (21, 0))), some (.inr (.inr (23, k1))), some (.inl x2), some (.inl x3), some (.inl x4), some (.inl x5), none, none, none, none]) ⟨.inr rfl, ⟨.inr rfl, ⟨.inr rfl, ⟨.inr rfl, ⟨.inr rfl, ⟨.inr rfl, ⟨.inl rfl, ⟨.inl rfl, ⟨.inl rfl, ⟨.inl rfl, trivial⟩⟩⟩⟩⟩⟩⟩⟩⟩⟩ ?_
    exact gX1_guestActs_b16 C hrec _ _ _ _ _ _ _ (hk1) h
  · replace h := ab_neg hc1 h
    refine ab_iconst C dX1_guestActs_11 (v := 1) rfl ?_
    refine ab_goto C (tgt := 16) dX1_guestActs_12 (by decide) ?_
    refine ab_weak (lv' := [some (.inr (.inr (21, 0))), some (.inr (.inr (23, k1))), some (.inl x2), some (.inl x3), some (.inl x4), some (.inl x5), none, none, none, none]) ⟨.inr rfl, ⟨.inr rfl, ⟨.inr rfl, ⟨.inr rfl, ⟨.inr rfl, ⟨.inr rfl, ⟨.inl rfl, ⟨.inl rfl, ⟨.inl rfl, ⟨.inl rfl, trivial⟩⟩⟩⟩⟩⟩⟩⟩⟩⟩ ?_
    exact gX1_guestActs_b16 C hrec _ _ _ _ _ _ _ (hk1) h
end
section
variable {p : Program} {l : Launch} {e : Env} {s : State} {m : MethodId} {args : Array Value} {below : List Frame} {meth : Method} {c : Code} {D : va_G} {cA : Nat → ClassId} {ad : Nat → Nat → Nat}
set_option maxRecDepth 100000 in
set_option maxHeartbeats 4000000 in
theorem gX1_hostActs_b9 {n : Nat} {R : (Int64 × ab_S)} {rc0 : Nat → Int32 → Int32 → Int32 → Int32 → ab_S → Option (Int64 × ab_S)} {rc1 : Nat → Int32 → Int32 → Int32 → Int32 → ab_S → Option (Int64 × ab_S)} (C : ab_C yC p s m args meth c D cA ad cX1_hostActs 11 RX1 (some .long)) (hrec : (∀ (k1 : Nat) (x2 : Int32) (x3 : Int32) (x4 : Int32) (x5 : Int32) (σ : ab_S), k1 < 4 → ∀ (R : (Int64 × ab_S)), rc0 k1 x2 x3 x4 x5 σ = some R → ab_M l yC yX1_guestActs cX1_guestActs 10 (some .long) (4 + n) [.inr (.inr (21, 0)), .inr (.inr (23, k1)), .inl x2, .inl x3, .inl x4, .inl x5] σ (some (.inr (.inl R.1))) R.2) ∧ (∀ (k1 : Nat) (x2 : Int32) (x3 : Int32) (x4 : Int32) (x5 : Int32) (σ : ab_S), k1 < 4 → ∀ (R : (Int64 × ab_S)), rc1 k1 x2 x3 x4 x5 σ = some R → ab_M l yC yX1_hostActs cX1_hostActs 11 (some .long) (4 + n) [.inr (.inr (21, 0)), .inr (.inr (23, k1)), .inl x2, .inl x3, .inl x4, .inl x5] σ (some (.inr (.inl R.1))) R.2)) (σ : ab_S) (h : fX1_hostActs_b9 rc0 rc1 σ = some R) : ab_G yC p l e s m args below meth c D cA ad 11 (4 + n + 1) (some (.inr (.inl R.1))) R.2 9 [none, none, none, none, none, none, none, none, none, none, none] [] σ := by
  refine ab_lconst C dX1_hostActs_9 (v := 0) rfl ?_
  obtain rfl := Option.some.inj h
  exact ab_lret C dX1_hostActs_10
set_option maxRecDepth 100000 in
set_option maxHeartbeats 4000000 in
theorem gX1_hostActs_b167 {n : Nat} {R : (Int64 × ab_S)} {rc0 : Nat → Int32 → Int32 → Int32 → Int32 → ab_S → Option (Int64 × ab_S)} {rc1 : Nat → Int32 → Int32 → Int32 → Int32 → ab_S → Option (Int64 × ab_S)} (C : ab_C yC p s m args meth c D cA ad cX1_hostActs 11 RX1 (some .long)) (hrec : (∀ (k1 : Nat) (x2 : Int32) (x3 : Int32) (x4 : Int32) (x5 : Int32) (σ : ab_S), k1 < 4 → ∀ (R : (Int64 × ab_S)), rc0 k1 x2 x3 x4 x5 σ = some R → ab_M l yC yX1_guestActs cX1_guestActs 10 (some .long) (4 + n) [.inr (.inr (21, 0)), .inr (.inr (23, k1)), .inl x2, .inl x3, .inl x4, .inl x5] σ (some (.inr (.inl R.1))) R.2) ∧ (∀ (k1 : Nat) (x2 : Int32) (x3 : Int32) (x4 : Int32) (x5 : Int32) (σ : ab_S), k1 < 4 → ∀ (R : (Int64 × ab_S)), rc1 k1 x2 x3 x4 x5 σ = some R → ab_M l yC yX1_hostActs cX1_hostActs 11 (some .long) (4 + n) [.inr (.inr (21, 0)), .inr (.inr (23, k1)), .inl x2, .inl x3, .inl x4, .inl x5] σ (some (.inr (.inl R.1))) R.2)) (t0 : Int64) (σ : ab_S) (h : fX1_hostActs_b167 rc0 rc1 t0 σ = some R) : ab_G yC p l e s m args below meth c D cA ad 11 (4 + n + 1) (some (.inr (.inl R.1))) R.2 167 [none, none, none, none, none, none, none, none, none, none, none] [.inr (.inl t0)] σ := by
  obtain rfl := Option.some.inj h
  exact ab_lret C dX1_hostActs_167
set_option maxRecDepth 100000 in
set_option maxHeartbeats 4000000 in
theorem gX1_hostActs_b130 {n : Nat} {R : (Int64 × ab_S)} {rc0 : Nat → Int32 → Int32 → Int32 → Int32 → ab_S → Option (Int64 × ab_S)} {rc1 : Nat → Int32 → Int32 → Int32 → Int32 → ab_S → Option (Int64 × ab_S)} (C : ab_C yC p s m args meth c D cA ad cX1_hostActs 11 RX1 (some .long)) (hrec : (∀ (k1 : Nat) (x2 : Int32) (x3 : Int32) (x4 : Int32) (x5 : Int32) (σ : ab_S), k1 < 4 → ∀ (R : (Int64 × ab_S)), rc0 k1 x2 x3 x4 x5 σ = some R → ab_M l yC yX1_guestActs cX1_guestActs 10 (some .long) (4 + n) [.inr (.inr (21, 0)), .inr (.inr (23, k1)), .inl x2, .inl x3, .inl x4, .inl x5] σ (some (.inr (.inl R.1))) R.2) ∧ (∀ (k1 : Nat) (x2 : Int32) (x3 : Int32) (x4 : Int32) (x5 : Int32) (σ : ab_S), k1 < 4 → ∀ (R : (Int64 × ab_S)), rc1 k1 x2 x3 x4 x5 σ = some R → ab_M l yC yX1_hostActs cX1_hostActs 11 (some .long) (4 + n) [.inr (.inr (21, 0)), .inr (.inr (23, k1)), .inl x2, .inl x3, .inl x4, .inl x5] σ (some (.inr (.inl R.1))) R.2)) {kk50 : Nat → Int32 → Int32 → Int32 → Int32 → Int64 → Int64 → Int32 → ab_S → Option (Int64 × ab_S)} (hk50 : ∀ (c1 : Nat) (v2 : Int32) (v3 : Int32) (v4 : Int32) (v5 : Int32) (v6 : Int64) (v8 : Int64) (v10 : Int32) (σ : ab_S), c1 < 4 → kk50 c1 v2 v3 v4 v5 v6 v8 v10 σ = some R → ab_G yC p l e s m args below meth c D cA ad 11 (4 + n + 1) (some (.inr (.inl R.1))) R.2 50 [some (.inr (.inr (21, 0))), some (.inr (.inr (23, c1))), some (.inl v2), some (.inl v3), some (.inl v4), some (.inl v5), some (.inr (.inl v6)), none, some (.inr (.inl v8)), none, some (.inl v10)] [] σ) (c1 : Nat) (v2 : Int32) (v3 : Int32) (v4 : Int32) (v5 : Int32) (v6 : Int64) (v8 : Int64) (v10 : Int32) (σ : ab_S) (mc1 : c1 < 4) (h : fX1_hostActs_b130 rc0 rc1 kk50 c1 v2 v3 v4 v5 v6 v8 v10 σ = some R) : ab_G yC p l e s m args below meth c D cA ad 11 (4 + n + 1) (some (.inr (.inl R.1))) R.2 130 [some (.inr (.inr (21, 0))), some (.inr (.inr (23, c1))), some (.inl v2), some (.inl v3), some (.inl v4), some (.inl v5), some (.inr (.inl v6)), none, some (.inr (.inl v8)), none, some (.inl v10)] [] σ := by
  refine ab_iinc C dX1_hostActs_130 rfl (v := 1) rfl (Nat.le_of_ble_eq_true rfl) ?_
  refine ab_goto C (tgt := 50) dX1_hostActs_133 (by decide) ?_
  refine ab_weak (lv' := [some (.inr (.inr (21, 0))), some (.inr (.inr (23, c1))), some (.inl v2), some (.inl v3), some (.inl v4), some (.inl v5), some (.inr (.inl v6)), none, some (.inr (.inl v8)), none, some (.inl (v10 + 1))]) ⟨.inr rfl, ⟨.inr rfl, ⟨.inr rfl, ⟨.inr rfl, ⟨.inr rfl, ⟨.inr rfl, ⟨.inr rfl, ⟨.inl rfl, ⟨.inr rfl, ⟨.inl rfl, ⟨.inr rfl, trivial⟩⟩⟩⟩⟩⟩⟩⟩⟩⟩⟩ ?_
  exact hk50 _ _ _ _ _ _ _ _ _ (mc1) h
set_option maxRecDepth 100000 in
set_option maxHeartbeats 4000000 in
theorem gX1_hostActs_b50_o {n : Nat} {R : (Int64 × ab_S)} {rc0 : Nat → Int32 → Int32 → Int32 → Int32 → ab_S → Option (Int64 × ab_S)} {rc1 : Nat → Int32 → Int32 → Int32 → Int32 → ab_S → Option (Int64 × ab_S)} (C : ab_C yC p s m args meth c D cA ad cX1_hostActs 11 RX1 (some .long)) (hrec : (∀ (k1 : Nat) (x2 : Int32) (x3 : Int32) (x4 : Int32) (x5 : Int32) (σ : ab_S), k1 < 4 → ∀ (R : (Int64 × ab_S)), rc0 k1 x2 x3 x4 x5 σ = some R → ab_M l yC yX1_guestActs cX1_guestActs 10 (some .long) (4 + n) [.inr (.inr (21, 0)), .inr (.inr (23, k1)), .inl x2, .inl x3, .inl x4, .inl x5] σ (some (.inr (.inl R.1))) R.2) ∧ (∀ (k1 : Nat) (x2 : Int32) (x3 : Int32) (x4 : Int32) (x5 : Int32) (σ : ab_S), k1 < 4 → ∀ (R : (Int64 × ab_S)), rc1 k1 x2 x3 x4 x5 σ = some R → ab_M l yC yX1_hostActs cX1_hostActs 11 (some .long) (4 + n) [.inr (.inr (21, 0)), .inr (.inr (23, k1)), .inl x2, .inl x3, .inl x4, .inl x5] σ (some (.inr (.inl R.1))) R.2)) {kk50 : Nat → Int32 → Int32 → Int32 → Int32 → Int64 → Int64 → Int32 → ab_S → Option (Int64 × ab_S)} (hk50 : ∀ (c1 : Nat) (v2 : Int32) (v3 : Int32) (v4 : Int32) (v5 : Int32) (v6 : Int64) (v8 : Int64) (v10 : Int32) (σ : ab_S), c1 < 4 → kk50 c1 v2 v3 v4 v5 v6 v8 v10 σ = some R → ab_G yC p l e s m args below meth c D cA ad 11 (4 + n + 1) (some (.inr (.inl R.1))) R.2 50 [some (.inr (.inr (21, 0))), some (.inr (.inr (23, c1))), some (.inl v2), some (.inl v3), some (.inl v4), some (.inl v5), some (.inr (.inl v6)), none, some (.inr (.inl v8)), none, some (.inl v10)] [] σ) (c1 : Nat) (v2 : Int32) (v3 : Int32) (v4 : Int32) (v5 : Int32) (v6 : Int64) (v8 : Int64) (v10 : Int32) (σ : ab_S) (mc1 : c1 < 4) (h : fX1_hostActs_b50_o rc0 rc1 kk50 c1 v2 v3 v4 v5 v6 v8 v10 σ = some R) : ab_G yC p l e s m args below meth c D cA ad 11 (4 + n + 1) (some (.inr (.inl R.1))) R.2 50 [some (.inr (.inr (21, 0))), some (.inr (.inr (23, c1))), some (.inl v2), some (.inl v3), some (.inl v4), some (.inl v5), some (.inr (.inl v6)), none, some (.inr (.inl v8)), none, some (.inl v10)] [] σ := by
  refine ab_iload C dX1_hostActs_50 rfl ?_
  refine ab_aload_n C dX1_hostActs_52 rfl ?_
  refine ab_getR C dX1_hostActs_53 flX1_39 rkC_21 rfl mmC_21 ?_
  refine ab_getI C dX1_hostActs_56 flX1_47 rkC_1 rfl mmC_1 ?_
  refine ab_icmp_ge C (tgt := 136) dX1_hostActs_59 (by decide) (fun hc1 => ?_) (fun hc1 => ?_)
  · replace h := ab_pos hc1 h
    refine ab_aload_n C dX1_hostActs_136 rfl ?_
    refine ab_iload_n C dX1_hostActs_137 rfl ?_
    refine ab_lload C dX1_hostActs_138 rfl ?_
    obtain ⟨q2, hq2, h⟩ := ab_bind h
    refine ab_inv1 C dX1_hostActs_140 mlX1_153 yvX1_pass rkC_21 ⟨_, _, rfl⟩ mmC_21 (tX1_pass l _ _ _ hq2) (by omega) (Nat.le_of_ble_eq_true rfl) rfl (Nat.le_of_ble_eq_true rfl) ?_
    refine ab_if_eq C (tgt := 165) dX1_hostActs_143 (by decide) (fun hc3 => ?_) (fun hc3 => ?_)
    · replace h := ab_pos hc3 h
      refine ab_lload C dX1_hostActs_165 rfl ?_
      refine ab_weak (lv' := [none, none, none, none, none, none, none, none, none, none, none]) ⟨.inl rfl, ⟨.inl rfl, ⟨.inl rfl, ⟨.inl rfl, ⟨.inl rfl, ⟨.inl rfl, ⟨.inl rfl, ⟨.inl rfl, ⟨.inl rfl, ⟨.inl rfl, ⟨.inl rfl, trivial⟩⟩⟩⟩⟩⟩⟩⟩⟩⟩⟩ ?_
      exact gX1_hostActs_b167 C hrec _ _ h
    · replace h := ab_neg hc3 h
      refine ab_lload C dX1_hostActs_146 rfl ?_
      refine ab_aload_n C dX1_hostActs_148 rfl ?_
      refine ab_aload_n C dX1_hostActs_149 rfl ?_
      refine ab_iload_n C dX1_hostActs_150 rfl ?_
      refine ab_iload_n C dX1_hostActs_151 rfl ?_
      refine ab_iconst C dX1_hostActs_152 (v := 1) rfl ?_
      refine ab_iadd C dX1_hostActs_153  ?_
      refine ab_iload C dX1_hostActs_154 rfl ?_
      refine ab_iload C dX1_hostActs_156 rfl ?_
      obtain ⟨q4, hq4, h⟩ := ab_bind h
      refine ab_inv1 C dX1_hostActs_158 mlX1_150 yvX1_guestActs rkC_21 ⟨_, _, rfl⟩ mmC_21 (hrec.1 _ _ _ _ _ _ (mc1) _ hq4) (by omega) (Nat.le_of_ble_eq_true rfl) rfl (Nat.le_of_ble_eq_true rfl) ?_
      refine ab_ladd C dX1_hostActs_161  ?_
      refine ab_goto C (tgt := 167) dX1_hostActs_162 (by decide) ?_
      refine ab_weak (lv' := [none, none, none, none, none, none, none, none, none, none, none]) ⟨.inl rfl, ⟨.inl rfl, ⟨.inl rfl, ⟨.inl rfl, ⟨.inl rfl, ⟨.inl rfl, ⟨.inl rfl, ⟨.inl rfl, ⟨.inl rfl, ⟨.inl rfl, ⟨.inl rfl, trivial⟩⟩⟩⟩⟩⟩⟩⟩⟩⟩⟩ ?_
      exact gX1_hostActs_b167 C hrec _ _ h
  · replace h := ab_neg hc1 h
    refine ab_iload C dX1_hostActs_62 rfl ?_
    refine ab_iload C dX1_hostActs_64 rfl ?_
    refine ab_icmp_eq C (tgt := 130) dX1_hostActs_66 (by decide) (fun hc5 => ?_) (fun hc5 => ?_)
    · replace h := ab_pos hc5 h
      refine ab_weak (lv' := [some (.inr (.inr (21, 0))), some (.inr (.inr (23, c1))), some (.inl v2), some (.inl v3), some (.inl v4), some (.inl v5), some (.inr (.inl v6)), none, some (.inr (.inl v8)), none, some (.inl v10)]) ⟨.inr rfl, ⟨.inr rfl, ⟨.inr rfl, ⟨.inr rfl, ⟨.inr rfl, ⟨.inr rfl, ⟨.inr rfl, ⟨.inl rfl, ⟨.inr rfl, ⟨.inl rfl, ⟨.inr rfl, trivial⟩⟩⟩⟩⟩⟩⟩⟩⟩⟩⟩ ?_
      exact gX1_hostActs_b130 C hrec hk50 _ _ _ _ _ _ _ _ _ (mc1) h
    · replace h := ab_neg hc5 h
      refine ab_iload C dX1_hostActs_69 rfl ?_
      refine ab_iload C dX1_hostActs_71 rfl ?_
      obtain ⟨q6, hq6, h⟩ := ab_bind h
      refine ab_invSN1 C dX1_hostActs_73 nlX1_81 ysX9_isIn (tX9_isIn l _ _ _ hq6) (by omega) (Nat.le_of_ble_eq_true rfl) rfl (Nat.le_of_ble_eq_true rfl) ?_
      refine ab_if_eq C (tgt := 82) dX1_hostActs_76 (by decide) (fun hc7 => ?_) (fun hc7 => ?_)
      · replace h := ab_pos hc7 h
        refine ab_lload C dX1_hostActs_82 rfl ?_
        refine ab_ldc2 C dX1_hostActs_84 cwX1_85 ?_
        refine ab_ldiv C dX1_hostActs_87 (by decide) ?_
        refine ab_lstore C dX1_hostActs_88 (Nat.le_of_ble_eq_true rfl) ?_
        refine ab_aload_n C dX1_hostActs_90 rfl ?_
        refine ab_aload_n C dX1_hostActs_91 rfl ?_
        refine ab_iload_n C dX1_hostActs_92 rfl ?_
        refine ab_iload C dX1_hostActs_93 rfl ?_
        refine ab_iload C dX1_hostActs_95 rfl ?_
        refine ab_iload C dX1_hostActs_97 rfl ?_
        refine ab_lload C dX1_hostActs_99 rfl ?_
        obtain ⟨q8, hq8, h⟩ := ab_bind h
        refine ab_inv1 C dX1_hostActs_101 mlX1_146 yvX1_look rkC_21 ⟨_, _, rfl⟩ mmC_21 (tX1_look l _ _ _ _ _ _ _ (mc1) hq8) (by omega) (Nat.le_of_ble_eq_true rfl) rfl (Nat.le_of_ble_eq_true rfl) ?_
        refine ab_if_eq C (tgt := 130) dX1_hostActs_104 (by decide) (fun hc9 => ?_) (fun hc9 => ?_)
        · replace h := ab_pos hc9 h
          refine ab_weak (lv' := [some (.inr (.inr (21, 0))), some (.inr (.inr (23, c1))), some (.inl v2), some (.inl v3), some (.inl v4), some (.inl v5), some (.inr (.inl (v6 / 12))), none, some (.inr (.inl v8)), none, some (.inl v10)]) ⟨.inr rfl, ⟨.inr rfl, ⟨.inr rfl, ⟨.inr rfl, ⟨.inr rfl, ⟨.inr rfl, ⟨.inr rfl, ⟨.inl rfl, ⟨.inr rfl, ⟨.inl rfl, ⟨.inr rfl, trivial⟩⟩⟩⟩⟩⟩⟩⟩⟩⟩⟩ ?_
          exact gX1_hostActs_b130 C hrec hk50 _ _ _ _ _ _ _ _ _ (mc1) h
        · replace h := ab_neg hc9 h
          refine ab_lload C dX1_hostActs_107 rfl ?_
          refine ab_aload_n C dX1_hostActs_109 rfl ?_
          refine ab_aload_n C dX1_hostActs_110 rfl ?_
          refine ab_iload_n C dX1_hostActs_111 rfl ?_
          refine ab_iload_n C dX1_hostActs_112 rfl ?_
          refine ab_iconst C dX1_hostActs_113 (v := 1) rfl ?_
          refine ab_iadd C dX1_hostActs_114  ?_
          refine ab_iload C dX1_hostActs_115 rfl ?_
          refine ab_iconst C dX1_hostActs_117 (v := 1) rfl ?_
          refine ab_iload C dX1_hostActs_118 rfl ?_
          refine ab_ishl C dX1_hostActs_120  ?_
          refine ab_ior C dX1_hostActs_121  ?_
          refine ab_iload C dX1_hostActs_122 rfl ?_
          obtain ⟨q10, hq10, h⟩ := ab_bind h
          refine ab_inv1 C dX1_hostActs_124 mlX1_150 yvX1_guestActs rkC_21 ⟨_, _, rfl⟩ mmC_21 (hrec.1 _ _ _ _ _ _ (mc1) _ hq10) (by omega) (Nat.le_of_ble_eq_true rfl) rfl (Nat.le_of_ble_eq_true rfl) ?_
          refine ab_ladd C dX1_hostActs_127  ?_
          refine ab_lstore C dX1_hostActs_128 (Nat.le_of_ble_eq_true rfl) ?_
          refine ab_weak (lv' := [some (.inr (.inr (21, 0))), some (.inr (.inr (23, c1))), some (.inl v2), some (.inl v3), some (.inl v4), some (.inl v5), some (.inr (.inl (v6 / 12))), none, some (.inr (.inl (v8 + q10.1))), none, some (.inl v10)]) ⟨.inr rfl, ⟨.inr rfl, ⟨.inr rfl, ⟨.inr rfl, ⟨.inr rfl, ⟨.inr rfl, ⟨.inr rfl, ⟨.inl rfl, ⟨.inr rfl, ⟨.inl rfl, ⟨.inr rfl, trivial⟩⟩⟩⟩⟩⟩⟩⟩⟩⟩⟩ ?_
          exact gX1_hostActs_b130 C hrec hk50 _ _ _ _ _ _ _ _ _ (mc1) h
      · replace h := ab_neg hc7 h
        refine ab_goto C (tgt := 130) dX1_hostActs_79 (by decide) ?_
        refine ab_weak (lv' := [some (.inr (.inr (21, 0))), some (.inr (.inr (23, c1))), some (.inl v2), some (.inl v3), some (.inl v4), some (.inl v5), some (.inr (.inl v6)), none, some (.inr (.inl v8)), none, some (.inl v10)]) ⟨.inr rfl, ⟨.inr rfl, ⟨.inr rfl, ⟨.inr rfl, ⟨.inr rfl, ⟨.inr rfl, ⟨.inr rfl, ⟨.inl rfl, ⟨.inr rfl, ⟨.inl rfl, ⟨.inr rfl, trivial⟩⟩⟩⟩⟩⟩⟩⟩⟩⟩⟩ ?_
        exact gX1_hostActs_b130 C hrec hk50 _ _ _ _ _ _ _ _ _ (mc1) h
theorem gX1_hostActs_b50 {n : Nat} {R : (Int64 × ab_S)} {rc0 : Nat → Int32 → Int32 → Int32 → Int32 → ab_S → Option (Int64 × ab_S)} {rc1 : Nat → Int32 → Int32 → Int32 → Int32 → ab_S → Option (Int64 × ab_S)} (C : ab_C yC p s m args meth c D cA ad cX1_hostActs 11 RX1 (some .long)) (hrec : (∀ (k1 : Nat) (x2 : Int32) (x3 : Int32) (x4 : Int32) (x5 : Int32) (σ : ab_S), k1 < 4 → ∀ (R : (Int64 × ab_S)), rc0 k1 x2 x3 x4 x5 σ = some R → ab_M l yC yX1_guestActs cX1_guestActs 10 (some .long) (4 + n) [.inr (.inr (21, 0)), .inr (.inr (23, k1)), .inl x2, .inl x3, .inl x4, .inl x5] σ (some (.inr (.inl R.1))) R.2) ∧ (∀ (k1 : Nat) (x2 : Int32) (x3 : Int32) (x4 : Int32) (x5 : Int32) (σ : ab_S), k1 < 4 → ∀ (R : (Int64 × ab_S)), rc1 k1 x2 x3 x4 x5 σ = some R → ab_M l yC yX1_hostActs cX1_hostActs 11 (some .long) (4 + n) [.inr (.inr (21, 0)), .inr (.inr (23, k1)), .inl x2, .inl x3, .inl x4, .inl x5] σ (some (.inr (.inl R.1))) R.2)) : ∀ (j : Nat) (c1 : Nat) (v2 : Int32) (v3 : Int32) (v4 : Int32) (v5 : Int32) (v6 : Int64) (v8 : Int64) (v10 : Int32) (σ : ab_S), c1 < 4 → fX1_hostActs_b50 rc0 rc1 j c1 v2 v3 v4 v5 v6 v8 v10 σ = some R → ab_G yC p l e s m args below meth c D cA ad 11 (4 + n + 1) (some (.inr (.inl R.1))) R.2 50 [some (.inr (.inr (21, 0))), some (.inr (.inr (23, c1))), some (.inl v2), some (.inl v3), some (.inl v4), some (.inl v5), some (.inr (.inl v6)), none, some (.inr (.inl v8)), none, some (.inl v10)] [] σ := by
  intro j
  induction j with
  | zero => intro c1 v2 v3 v4 v5 v6 v8 v10 σ hh0 h; cases h
  | succ j ih => intro c1 v2 v3 v4 v5 v6 v8 v10 σ hh0 h; exact gX1_hostActs_b50_o C hrec ih _ _ _ _ _ _ _ _ _ hh0 h
set_option maxRecDepth 100000 in
set_option maxHeartbeats 4000000 in
theorem tX1_hostActs_o (l : Launch) {n : Nat} {rc0 : Nat → Int32 → Int32 → Int32 → Int32 → ab_S → Option (Int64 × ab_S)} {rc1 : Nat → Int32 → Int32 → Int32 → Int32 → ab_S → Option (Int64 × ab_S)} (hrec : (∀ (k1 : Nat) (x2 : Int32) (x3 : Int32) (x4 : Int32) (x5 : Int32) (σ : ab_S), k1 < 4 → ∀ (R : (Int64 × ab_S)), rc0 k1 x2 x3 x4 x5 σ = some R → ab_M l yC yX1_guestActs cX1_guestActs 10 (some .long) (4 + n) [.inr (.inr (21, 0)), .inr (.inr (23, k1)), .inl x2, .inl x3, .inl x4, .inl x5] σ (some (.inr (.inl R.1))) R.2) ∧ (∀ (k1 : Nat) (x2 : Int32) (x3 : Int32) (x4 : Int32) (x5 : Int32) (σ : ab_S), k1 < 4 → ∀ (R : (Int64 × ab_S)), rc1 k1 x2 x3 x4 x5 σ = some R → ab_M l yC yX1_hostActs cX1_hostActs 11 (some .long) (4 + n) [.inr (.inr (21, 0)), .inr (.inr (23, k1)), .inl x2, .inl x3, .inl x4, .inl x5] σ (some (.inr (.inl R.1))) R.2)) (k1 : Nat) (x2 : Int32) (x3 : Int32) (x4 : Int32) (x5 : Int32) (σ : ab_S) (hk1 : k1 < 4) {R : (Int64 × ab_S)} (h : fX1_hostActs_o rc0 rc1 k1 x2 x3 x4 x5 σ = some R) : ab_M l yC yX1_hostActs cX1_hostActs 11 (some .long) (4 + n + 1) [.inr (.inr (21, 0)), .inr (.inr (23, k1)), .inl x2, .inl x3, .inl x4, .inl x5] σ (some (.inr (.inl R.1))) R.2 := by
  refine ab_M_intro ndC (by decide) (Nat.le_of_ble_eq_true rfl) ?_
  intro p e s m args below meth c D cA ad C
  have C : ab_C yC p s m args meth c D cA ad cX1_hostActs 11 RX1 (some .long) := C
  refine ab_weak (lv' := [some (.inr (.inr (21, 0))), some (.inr (.inr (23, k1))), some (.inl x2), some (.inl x3), some (.inl x4), some (.inl x5), none, none, none, none, none]) ⟨.inr rfl, ⟨.inr rfl, ⟨.inr rfl, ⟨.inr rfl, ⟨.inr rfl, ⟨.inr rfl, ⟨.inl rfl, ⟨.inl rfl, ⟨.inl rfl, ⟨.inl rfl, ⟨.inl rfl, trivial⟩⟩⟩⟩⟩⟩⟩⟩⟩⟩⟩ ?_
  refine ab_iload_n C dX1_hostActs_0 rfl ?_
  refine ab_if_lt C (tgt := 9) dX1_hostActs_1 (by decide) (fun hc1 => ?_) (fun hc1 => ?_)
  · replace h := ab_pos hc1 h
    refine ab_weak (lv' := [none, none, none, none, none, none, none, none, none, none, none]) ⟨.inl rfl, ⟨.inl rfl, ⟨.inl rfl, ⟨.inl rfl, ⟨.inl rfl, ⟨.inl rfl, ⟨.inl rfl, ⟨.inl rfl, ⟨.inl rfl, ⟨.inl rfl, ⟨.inl rfl, trivial⟩⟩⟩⟩⟩⟩⟩⟩⟩⟩⟩ ?_
    exact gX1_hostActs_b9 C hrec _ h
  · replace h := ab_neg hc1 h
    refine ab_iload_n C dX1_hostActs_4 rfl ?_
    refine ab_iconst C dX1_hostActs_5 (v := 3) rfl ?_
    refine ab_icmp_lt C (tgt := 11) dX1_hostActs_6 (by decide) (fun hc2 => ?_) (fun hc2 => ?_)
    · replace h := ab_pos hc2 h
      refine ab_aload_n C dX1_hostActs_11 rfl ?_
      refine ab_getR C dX1_hostActs_12 flX1_23 rkC_21 rfl mmC_21 ?_
      refine ab_iload_n C dX1_hostActs_15 rfl ?_
      obtain ⟨hg3, h⟩ := ab_grd h
      refine ab_aald4 C dX1_hostActs_16 rkC_28 mmC_28 hg3 ?_
      refine ab_iconst C dX1_hostActs_17 (v := 0) rfl ?_
      refine ab_aload_n C dX1_hostActs_18 rfl ?_
      refine ab_getR C dX1_hostActs_19 flX1_26 rkC_21 rfl mmC_21 ?_
      refine ab_iload_n C dX1_hostActs_22 rfl ?_
      obtain ⟨hg4, h⟩ := ab_grd h
      refine ab_aald4 C dX1_hostActs_23 rkC_30 mmC_30 hg4 ?_
      refine ab_iconst C dX1_hostActs_24 (v := 0) rfl ?_
      refine ab_aload_n C dX1_hostActs_25 rfl ?_
      refine ab_getR C dX1_hostActs_26 flX1_39 rkC_21 rfl mmC_21 ?_
      refine ab_getI C dX1_hostActs_29 flX1_47 rkC_1 rfl mmC_1 ?_
      obtain ⟨hg5, h⟩ := ab_grd h
      refine ab_copyl C dX1_hostActs_32 mlX1_137 rkC_29 (mmC_29 (ab_inb_lt hg3)) rkC_31 (mmC_31 (ab_inb_lt hg4)) hg5 (by omega) (Nat.le_of_ble_eq_true rfl) ?_
      refine ab_nmS (fun σ6 eσ6 => ?_)
      replace h := ab_kh eσ6 h
      refine ab_aload_n C dX1_hostActs_35 rfl ?_
      refine ab_getR C dX1_hostActs_36 flX1_39 rkC_21 rfl mmC_21 ?_
      obtain ⟨q7, hq7, h⟩ := ab_bind h
      refine ab_inv1 C dX1_hostActs_39 mlX1_143 yvX7_wholeAct rkC_1 ⟨_, _, rfl⟩ mmC_1 (tX7_wholeAct l _ hq7) (by omega) (Nat.le_of_ble_eq_true rfl) rfl (Nat.le_of_ble_eq_true rfl) ?_
      refine ab_lstore C dX1_hostActs_42 (Nat.le_of_ble_eq_true rfl) ?_
      refine ab_lconst C dX1_hostActs_44 (v := 0) rfl ?_
      refine ab_lstore C dX1_hostActs_45 (Nat.le_of_ble_eq_true rfl) ?_
      refine ab_iconst C dX1_hostActs_47 (v := 0) rfl ?_
      refine ab_istore C dX1_hostActs_48 (Nat.le_of_ble_eq_true rfl) ?_
      refine ab_weak (lv' := [some (.inr (.inr (21, 0))), some (.inr (.inr (23, k1))), some (.inl x2), some (.inl x3), some (.inl x4), some (.inl x5), some (.inr (.inl q7)), none, some (.inr (.inl 0)), none, some (.inl 0)]) ⟨.inr rfl, ⟨.inr rfl, ⟨.inr rfl, ⟨.inr rfl, ⟨.inr rfl, ⟨.inr rfl, ⟨.inr rfl, ⟨.inl rfl, ⟨.inr rfl, ⟨.inl rfl, ⟨.inr rfl, trivial⟩⟩⟩⟩⟩⟩⟩⟩⟩⟩⟩ ?_
      refine ab_weak (lv' := [some (.inr (.inr (21, 0))), some (.inr (.inr (23, k1))), some (.inl x2), some (.inl x3), some (.inl x4), some (.inl x5), some (.inr (.inl q7)), none, some (.inr (.inl 0)), none, some (.inl 0)]) ⟨.inr rfl, ⟨.inr rfl, ⟨.inr rfl, ⟨.inr rfl, ⟨.inr rfl, ⟨.inr rfl, ⟨.inr rfl, ⟨.inl rfl, ⟨.inr rfl, ⟨.inl rfl, ⟨.inr rfl, trivial⟩⟩⟩⟩⟩⟩⟩⟩⟩⟩⟩ ?_
      exact gX1_hostActs_b50 C hrec ab_N _ _ _ _ _ _ _ _ _ (hk1) h
    · replace h := ab_neg hc2 h
      refine ab_weak (lv' := [none, none, none, none, none, none, none, none, none, none, none]) ⟨.inl rfl, ⟨.inl rfl, ⟨.inl rfl, ⟨.inl rfl, ⟨.inl rfl, ⟨.inl rfl, ⟨.inl rfl, ⟨.inl rfl, ⟨.inl rfl, ⟨.inl rfl, ⟨.inl rfl, trivial⟩⟩⟩⟩⟩⟩⟩⟩⟩⟩⟩ ?_
      exact gX1_hostActs_b9 C hrec _ h
end
theorem tzX1_guestActs (l : Launch) : ∀ n : Nat, (∀ (k1 : Nat) (x2 : Int32) (x3 : Int32) (x4 : Int32) (x5 : Int32) (σ : ab_S), k1 < 4 → ∀ (R : (Int64 × ab_S)), fX1_guestActs n k1 x2 x3 x4 x5 σ = some R → ab_M l yC yX1_guestActs cX1_guestActs 10 (some .long) (4 + n) [.inr (.inr (21, 0)), .inr (.inr (23, k1)), .inl x2, .inl x3, .inl x4, .inl x5] σ (some (.inr (.inl R.1))) R.2) ∧ (∀ (k1 : Nat) (x2 : Int32) (x3 : Int32) (x4 : Int32) (x5 : Int32) (σ : ab_S), k1 < 4 → ∀ (R : (Int64 × ab_S)), fX1_hostActs n k1 x2 x3 x4 x5 σ = some R → ab_M l yC yX1_hostActs cX1_hostActs 11 (some .long) (4 + n) [.inr (.inr (21, 0)), .inr (.inr (23, k1)), .inl x2, .inl x3, .inl x4, .inl x5] σ (some (.inr (.inl R.1))) R.2) := by
  intro n
  induction n with
  | zero => exact ⟨fun _ _ _ _ _ _ _ _ h => (by cases h), fun _ _ _ _ _ _ _ _ h => (by cases h)⟩
  | succ n ih => exact ⟨fun a0 a1 a2 a3 a4 a5 b0 R h => tX1_guestActs_o l ih a0 a1 a2 a3 a4 a5 b0 h, fun a0 a1 a2 a3 a4 a5 b0 R h => tX1_hostActs_o l ih a0 a1 a2 a3 a4 a5 b0 h⟩
theorem tX1_guestActs (n : Nat) (l : Launch) (k1 : Nat) (x2 : Int32) (x3 : Int32) (x4 : Int32) (x5 : Int32) (σ : ab_S) (hk1 : k1 < 4) {R : (Int64 × ab_S)} (h : fX1_guestActs n k1 x2 x3 x4 x5 σ = some R) : ab_M l yC yX1_guestActs cX1_guestActs 10 (some .long) (4 + n) [.inr (.inr (21, 0)), .inr (.inr (23, k1)), .inl x2, .inl x3, .inl x4, .inl x5] σ (some (.inr (.inl R.1))) R.2 := (tzX1_guestActs l n).1 k1 x2 x3 x4 x5 σ hk1 R h
theorem tX1_hostActs (n : Nat) (l : Launch) (k1 : Nat) (x2 : Int32) (x3 : Int32) (x4 : Int32) (x5 : Int32) (σ : ab_S) (hk1 : k1 < 4) {R : (Int64 × ab_S)} (h : fX1_hostActs n k1 x2 x3 x4 x5 σ = some R) : ab_M l yC yX1_hostActs cX1_hostActs 11 (some .long) (4 + n) [.inr (.inr (21, 0)), .inr (.inr (23, k1)), .inl x2, .inl x3, .inl x4, .inl x5] σ (some (.inr (.inl R.1))) R.2 := (tzX1_guestActs l n).2 k1 x2 x3 x4 x5 σ hk1 R h
def fX1_layShares_b2_o (kk2 : Int32 → ab_S → Option ab_S) (v1 : Int32) (σ : ab_S) : Option ab_S := (if (σ.1 1 0 3) ≤ v1 then some σ else (if ab_inb 0 4 = true then (if ab_inb v1 5 = true then (if ab_inb v1 5 = true then ab_k (ab_sl σ 29 ((0 : Int32).toNatClampNeg) v1.toNatClampNeg ((σ.1 2 0 v1.toNatClampNeg : Int32).toInt64)) fun σ5 => kk2 (v1 + 1) σ5 else none) else none) else none))
def fX1_layShares_b2 : Nat → Int32 → ab_S → Option ab_S
  | 0 => fun _ _ => none
  | n + 1 => fX1_layShares_b2_o  (fX1_layShares_b2 n)
def fX1_layShares (σ : ab_S) : Option ab_S := fX1_layShares_b2 ab_N 0 σ
section
variable {p : Program} {l : Launch} {e : Env} {s : State} {m : MethodId} {args : Array Value} {below : List Frame} {meth : Method} {c : Code} {D : va_G} {cA : Nat → ClassId} {ad : Nat → Nat → Nat}
set_option maxRecDepth 100000 in
set_option maxHeartbeats 4000000 in
theorem gX1_layShares_b2_o {R : ab_S} (C : ab_C yC p s m args meth c D cA ad cX1_layShares 2 RX1 none) {kk2 : Int32 → ab_S → Option ab_S} (hk2 : ∀ (v1 : Int32) (σ : ab_S), kk2 v1 σ = some R → ab_G yC p l e s m args below meth c D cA ad 2 0 none R 2 [some (.inr (.inr (21, 0))), some (.inl v1)] [] σ) (v1 : Int32) (σ : ab_S) (h : fX1_layShares_b2_o kk2 v1 σ = some R) : ab_G yC p l e s m args below meth c D cA ad 2 0 none R 2 [some (.inr (.inr (21, 0))), some (.inl v1)] [] σ := by
  refine ab_iload_n C dX1_layShares_2 rfl ?_
  refine ab_aload_n C dX1_layShares_3 rfl ?_
  refine ab_getR C dX1_layShares_4 flX1_39 rkC_21 rfl mmC_21 ?_
  refine ab_getI C dX1_layShares_7 flX1_47 rkC_1 rfl mmC_1 ?_
  refine ab_icmp_ge C (tgt := 37) dX1_layShares_10 (by decide) (fun hc1 => ?_) (fun hc1 => ?_)
  · replace h := ab_pos hc1 h
    obtain rfl := Option.some.inj h
    exact ab_vret C dX1_layShares_37
  · replace h := ab_neg hc1 h
    refine ab_aload_n C dX1_layShares_13 rfl ?_
    refine ab_getR C dX1_layShares_14 flX1_23 rkC_21 rfl mmC_21 ?_
    refine ab_iconst C dX1_layShares_17 (v := 0) rfl ?_
    obtain ⟨hg2, h⟩ := ab_grd h
    refine ab_aald4 C dX1_layShares_18 rkC_28 mmC_28 hg2 ?_
    refine ab_iload_n C dX1_layShares_19 rfl ?_
    refine ab_aload_n C dX1_layShares_20 rfl ?_
    refine ab_getR C dX1_layShares_21 flX1_39 rkC_21 rfl mmC_21 ?_
    refine ab_getR C dX1_layShares_24 flX1_91 rkC_1 rfl mmC_1 ?_
    refine ab_iload_n C dX1_layShares_27 rfl ?_
    obtain ⟨hg3, h⟩ := ab_grd h
    refine ab_iald C dX1_layShares_28 rkC_2 mmC_2 hg3 ?_
    refine ab_i2l C dX1_layShares_29  ?_
    obtain ⟨hg4, h⟩ := ab_grd h
    refine ab_last C dX1_layShares_30 rkC_29 (mmC_29 (ab_inb_lt hg2)) hg4 ?_
    refine ab_nmS (fun σ5 eσ5 => ?_)
    replace h := ab_kh eσ5 h
    refine ab_iinc C dX1_layShares_31 rfl (v := 1) rfl (Nat.le_of_ble_eq_true rfl) ?_
    refine ab_goto C (tgt := 2) dX1_layShares_34 (by decide) ?_
    refine ab_weak (lv' := [some (.inr (.inr (21, 0))), some (.inl (v1 + 1))]) ⟨.inr rfl, ⟨.inr rfl, trivial⟩⟩ ?_
    exact hk2 _ _ h
theorem gX1_layShares_b2 {R : ab_S} (C : ab_C yC p s m args meth c D cA ad cX1_layShares 2 RX1 none) : ∀ (j : Nat) (v1 : Int32) (σ : ab_S), fX1_layShares_b2 j v1 σ = some R → ab_G yC p l e s m args below meth c D cA ad 2 0 none R 2 [some (.inr (.inr (21, 0))), some (.inl v1)] [] σ := by
  intro j
  induction j with
  | zero => intro v1 σ  h; cases h
  | succ j ih => intro v1 σ  h; exact gX1_layShares_b2_o C ih _ _ h
set_option maxRecDepth 100000 in
set_option maxHeartbeats 4000000 in
theorem tX1_layShares (l : Launch) (σ : ab_S) {R : ab_S} (h : fX1_layShares σ = some R) : ab_M l yC yX1_layShares cX1_layShares 2 none 0 [.inr (.inr (21, 0))] σ none R := by
  refine ab_M_intro ndC (by decide) (Nat.le_of_ble_eq_true rfl) ?_
  intro p e s m args below meth c D cA ad C
  have C : ab_C yC p s m args meth c D cA ad cX1_layShares 2 RX1 none := C
  refine ab_weak (lv' := [some (.inr (.inr (21, 0))), none]) ⟨.inr rfl, ⟨.inl rfl, trivial⟩⟩ ?_
  refine ab_iconst C dX1_layShares_0 (v := 0) rfl ?_
  refine ab_istore_n C dX1_layShares_1 (Nat.le_of_ble_eq_true rfl) ?_
  refine ab_weak (lv' := [some (.inr (.inr (21, 0))), some (.inl 0)]) ⟨.inr rfl, ⟨.inr rfl, trivial⟩⟩ ?_
  exact gX1_layShares_b2 C ab_N _ _ h
end
def fX1_greatestWorth_b111 (kk60 : Int32 → Int32 → ab_S → Option (Int64 × ab_S)) (v1 : Int32) (v2 : Int32) (σ : ab_S) : Option (Int64 × ab_S) := kk60 v1 (v2 + 1) σ
def fX1_greatestWorth_b60_o (kk60 : Int32 → Int32 → ab_S → Option (Int64 × ab_S)) (v1 : Int32) (v2 : Int32) (σ : ab_S) : Option (Int64 × ab_S) := (if (σ.1 1 0 3) ≤ v2 then (if ab_inb v1 4 = true then some (σ.2 32 0 v1.toNatClampNeg, σ) else none) else (if ab_inb v1 4 = true then ((fX1_hostActs 64) v1.toNatClampNeg 3 0 0 v2 σ).bind fun q4 => (if ab_inb v1 4 = true then (if (lg_cmp q4.1 (q4.2.2 32 0 v1.toNatClampNeg)) ≤ 0 then fX1_greatestWorth_b111 kk60 v1 v2 q4.2 else (if ab_inb v1 4 = true then ab_k (ab_sl q4.2 32 0 v1.toNatClampNeg q4.1) fun σ8 => (if ab_inb v1 4 = true then ab_k (ab_si σ8 33 0 v1.toNatClampNeg v2) fun σ10 => fX1_greatestWorth_b111 kk60 v1 v2 σ10 else none) else none)) else none) else none))
def fX1_greatestWorth_b60 : Nat → Int32 → Int32 → ab_S → Option (Int64 × ab_S)
  | 0 => fun _ _ _ => none
  | n + 1 => fX1_greatestWorth_b60_o  (fX1_greatestWorth_b60 n)
def fX1_greatestWorth (x1 : Int32) (σ : ab_S) : Option (Int64 × ab_S) := (fX1_isHost x1).bind fun q1 => (if q1 = 0 then some (0, σ) else (if ab_inb x1 4 = true then (if (σ.1 34 0 x1.toNatClampNeg) = (σ.1 1 0 6) then (if ab_inb x1 4 = true then some (σ.2 32 0 x1.toNatClampNeg, σ) else none) else (if ab_inb x1 4 = true then ab_k (ab_si σ 34 0 x1.toNatClampNeg (σ.1 1 0 6)) fun σ6 => (if ab_inb x1 4 = true then ab_k (ab_sl σ6 32 0 x1.toNatClampNeg ((-1))) fun σ8 => (fX1_layShares σ8).bind fun q9 => fX1_greatestWorth_b60 ab_N x1 0 q9 else none) else none)) else none))
section
variable {p : Program} {l : Launch} {e : Env} {s : State} {m : MethodId} {args : Array Value} {below : List Frame} {meth : Method} {c : Code} {D : va_G} {cA : Nat → ClassId} {ad : Nat → Nat → Nat}
set_option maxRecDepth 100000 in
set_option maxHeartbeats 4000000 in
theorem gX1_greatestWorth_b111 {R : (Int64 × ab_S)} (C : ab_C yC p s m args meth c D cA ad cX1_greatestWorth 5 RX1 (some .long)) {kk60 : Int32 → Int32 → ab_S → Option (Int64 × ab_S)} (hk60 : ∀ (v1 : Int32) (v2 : Int32) (σ : ab_S), kk60 v1 v2 σ = some R → ab_G yC p l e s m args below meth c D cA ad 5 69 (some (.inr (.inl R.1))) R.2 60 [some (.inr (.inr (21, 0))), some (.inl v1), some (.inl v2), none, none] [] σ) (v1 : Int32) (v2 : Int32) (σ : ab_S) (h : fX1_greatestWorth_b111 kk60 v1 v2 σ = some R) : ab_G yC p l e s m args below meth c D cA ad 5 69 (some (.inr (.inl R.1))) R.2 111 [some (.inr (.inr (21, 0))), some (.inl v1), some (.inl v2), none, none] [] σ := by
  refine ab_iinc C dX1_greatestWorth_111 rfl (v := 1) rfl (Nat.le_of_ble_eq_true rfl) ?_
  refine ab_goto C (tgt := 60) dX1_greatestWorth_114 (by decide) ?_
  refine ab_weak (lv' := [some (.inr (.inr (21, 0))), some (.inl v1), some (.inl (v2 + 1)), none, none]) ⟨.inr rfl, ⟨.inr rfl, ⟨.inr rfl, ⟨.inl rfl, ⟨.inl rfl, trivial⟩⟩⟩⟩⟩ ?_
  exact hk60 _ _ _ h
set_option maxRecDepth 100000 in
set_option maxHeartbeats 4000000 in
theorem gX1_greatestWorth_b60_o {R : (Int64 × ab_S)} (C : ab_C yC p s m args meth c D cA ad cX1_greatestWorth 5 RX1 (some .long)) {kk60 : Int32 → Int32 → ab_S → Option (Int64 × ab_S)} (hk60 : ∀ (v1 : Int32) (v2 : Int32) (σ : ab_S), kk60 v1 v2 σ = some R → ab_G yC p l e s m args below meth c D cA ad 5 69 (some (.inr (.inl R.1))) R.2 60 [some (.inr (.inr (21, 0))), some (.inl v1), some (.inl v2), none, none] [] σ) (v1 : Int32) (v2 : Int32) (σ : ab_S) (h : fX1_greatestWorth_b60_o kk60 v1 v2 σ = some R) : ab_G yC p l e s m args below meth c D cA ad 5 69 (some (.inr (.inl R.1))) R.2 60 [some (.inr (.inr (21, 0))), some (.inl v1), some (.inl v2), none, none] [] σ := by
  refine ab_iload_n C dX1_greatestWorth_60 rfl ?_
  refine ab_aload_n C dX1_greatestWorth_61 rfl ?_
  refine ab_getR C dX1_greatestWorth_62 flX1_39 rkC_21 rfl mmC_21 ?_
  refine ab_getI C dX1_greatestWorth_65 flX1_47 rkC_1 rfl mmC_1 ?_
  refine ab_icmp_ge C (tgt := 117) dX1_greatestWorth_68 (by decide) (fun hc1 => ?_) (fun hc1 => ?_)
  · replace h := ab_pos hc1 h
    refine ab_aload_n C dX1_greatestWorth_117 rfl ?_
    refine ab_getR C dX1_greatestWorth_118 flX1_29 rkC_21 rfl mmC_21 ?_
    refine ab_iload_n C dX1_greatestWorth_121 rfl ?_
    obtain ⟨hg2, h⟩ := ab_grd h
    refine ab_lald C dX1_greatestWorth_122 rkC_32 mmC_32 hg2 ?_
    obtain rfl := Option.some.inj h
    exact ab_lret C dX1_greatestWorth_123
  · replace h := ab_neg hc1 h
    refine ab_aload_n C dX1_greatestWorth_71 rfl ?_
    refine ab_aload_n C dX1_greatestWorth_72 rfl ?_
    refine ab_getR C dX1_greatestWorth_73 flX1_11 rkC_21 rfl mmC_21 ?_
    refine ab_iload_n C dX1_greatestWorth_76 rfl ?_
    obtain ⟨hg3, h⟩ := ab_grd h
    refine ab_aald3 C dX1_greatestWorth_77 rkC_22 mmC_22 hg3 ?_
    refine ab_iconst C dX1_greatestWorth_78 (v := 3) rfl ?_
    refine ab_iconst C dX1_greatestWorth_79 (v := 0) rfl ?_
    refine ab_iconst C dX1_greatestWorth_80 (v := 0) rfl ?_
    refine ab_iload_n C dX1_greatestWorth_81 rfl ?_
    obtain ⟨q4, hq4, h⟩ := ab_bind h
    refine ab_inv1 C dX1_greatestWorth_82 mlX1_131 yvX1_hostActs rkC_21 ⟨_, _, rfl⟩ mmC_21 (tX1_hostActs 64 l _ _ _ _ _ _ (ab_inb_lt hg3) hq4) (Nat.le_of_ble_eq_true rfl) (Nat.le_of_ble_eq_true rfl) rfl (Nat.le_of_ble_eq_true rfl) ?_
    refine ab_lstore_n C dX1_greatestWorth_85 (Nat.le_of_ble_eq_true rfl) ?_
    refine ab_lload_n C dX1_greatestWorth_86 rfl ?_
    refine ab_aload_n C dX1_greatestWorth_87 rfl ?_
    refine ab_getR C dX1_greatestWorth_88 flX1_29 rkC_21 rfl mmC_21 ?_
    refine ab_iload_n C dX1_greatestWorth_91 rfl ?_
    obtain ⟨hg5, h⟩ := ab_grd h
    refine ab_lald C dX1_greatestWorth_92 rkC_32 mmC_32 hg5 ?_
    refine ab_lcmp C dX1_greatestWorth_93  ?_
    refine ab_if_le C (tgt := 111) dX1_greatestWorth_94 (by decide) (fun hc6 => ?_) (fun hc6 => ?_)
    · replace h := ab_pos hc6 h
      refine ab_weak (lv' := [some (.inr (.inr (21, 0))), some (.inl v1), some (.inl v2), none, none]) ⟨.inr rfl, ⟨.inr rfl, ⟨.inr rfl, ⟨.inl rfl, ⟨.inl rfl, trivial⟩⟩⟩⟩⟩ ?_
      exact gX1_greatestWorth_b111 C hk60 _ _ _ h
    · replace h := ab_neg hc6 h
      refine ab_aload_n C dX1_greatestWorth_97 rfl ?_
      refine ab_getR C dX1_greatestWorth_98 flX1_29 rkC_21 rfl mmC_21 ?_
      refine ab_iload_n C dX1_greatestWorth_101 rfl ?_
      refine ab_lload_n C dX1_greatestWorth_102 rfl ?_
      obtain ⟨hg7, h⟩ := ab_grd h
      refine ab_last C dX1_greatestWorth_103 rkC_32 mmC_32 hg7 ?_
      refine ab_nmS (fun σ8 eσ8 => ?_)
      replace h := ab_kh eσ8 h
      refine ab_aload_n C dX1_greatestWorth_104 rfl ?_
      refine ab_getR C dX1_greatestWorth_105 flX1_32 rkC_21 rfl mmC_21 ?_
      refine ab_iload_n C dX1_greatestWorth_108 rfl ?_
      refine ab_iload_n C dX1_greatestWorth_109 rfl ?_
      obtain ⟨hg9, h⟩ := ab_grd h
      refine ab_iast C dX1_greatestWorth_110 rkC_33 mmC_33 hg9 ?_
      refine ab_nmS (fun σ10 eσ10 => ?_)
      replace h := ab_kh eσ10 h
      refine ab_weak (lv' := [some (.inr (.inr (21, 0))), some (.inl v1), some (.inl v2), none, none]) ⟨.inr rfl, ⟨.inr rfl, ⟨.inr rfl, ⟨.inl rfl, ⟨.inl rfl, trivial⟩⟩⟩⟩⟩ ?_
      exact gX1_greatestWorth_b111 C hk60 _ _ _ h
theorem gX1_greatestWorth_b60 {R : (Int64 × ab_S)} (C : ab_C yC p s m args meth c D cA ad cX1_greatestWorth 5 RX1 (some .long)) : ∀ (j : Nat) (v1 : Int32) (v2 : Int32) (σ : ab_S), fX1_greatestWorth_b60 j v1 v2 σ = some R → ab_G yC p l e s m args below meth c D cA ad 5 69 (some (.inr (.inl R.1))) R.2 60 [some (.inr (.inr (21, 0))), some (.inl v1), some (.inl v2), none, none] [] σ := by
  intro j
  induction j with
  | zero => intro v1 v2 σ  h; cases h
  | succ j ih => intro v1 v2 σ  h; exact gX1_greatestWorth_b60_o C ih _ _ _ h
set_option maxRecDepth 100000 in
set_option maxHeartbeats 4000000 in
theorem tX1_greatestWorth (l : Launch) (x1 : Int32) (σ : ab_S) {R : (Int64 × ab_S)} (h : fX1_greatestWorth x1 σ = some R) : ab_M l yC yX1_greatestWorth cX1_greatestWorth 5 (some .long) 69 [.inr (.inr (21, 0)), .inl x1] σ (some (.inr (.inl R.1))) R.2 := by
  refine ab_M_intro ndC (by decide) (Nat.le_of_ble_eq_true rfl) ?_
  intro p e s m args below meth c D cA ad C
  have C : ab_C yC p s m args meth c D cA ad cX1_greatestWorth 5 RX1 (some .long) := C
  refine ab_weak (lv' := [some (.inr (.inr (21, 0))), some (.inl x1), none, none, none]) ⟨.inr rfl, ⟨.inr rfl, ⟨.inl rfl, ⟨.inl rfl, ⟨.inl rfl, trivial⟩⟩⟩⟩⟩ ?_
  refine ab_iload_n C dX1_greatestWorth_0 rfl ?_
  obtain ⟨q1, hq1, h⟩ := ab_bind h
  refine ab_invS1 C dX1_greatestWorth_1 mlX1_57 ysX1_isHost (tX1_isHost l _ _ hq1) (Nat.le_of_ble_eq_true rfl) (Nat.le_of_ble_eq_true rfl) rfl (Nat.le_of_ble_eq_true rfl) ?_
  refine ab_if_ne C (tgt := 9) dX1_greatestWorth_4 (by decide) (fun hc2 => ?_) (fun hc2 => ?_)
  · replace h := ab_neg hc2 h
    refine ab_aload_n C dX1_greatestWorth_9 rfl ?_
    refine ab_getR C dX1_greatestWorth_10 flX1_36 rkC_21 rfl mmC_21 ?_
    refine ab_iload_n C dX1_greatestWorth_13 rfl ?_
    obtain ⟨hg3, h⟩ := ab_grd h
    refine ab_iald C dX1_greatestWorth_14 rkC_34 mmC_34 hg3 ?_
    refine ab_aload_n C dX1_greatestWorth_15 rfl ?_
    refine ab_getR C dX1_greatestWorth_16 flX1_39 rkC_21 rfl mmC_21 ?_
    refine ab_getI C dX1_greatestWorth_19 flX1_65 rkC_1 rfl mmC_1 ?_
    refine ab_icmp_ne C (tgt := 32) dX1_greatestWorth_22 (by decide) (fun hc4 => ?_) (fun hc4 => ?_)
    · replace h := ab_neg hc4 h
      refine ab_aload_n C dX1_greatestWorth_32 rfl ?_
      refine ab_getR C dX1_greatestWorth_33 flX1_36 rkC_21 rfl mmC_21 ?_
      refine ab_iload_n C dX1_greatestWorth_36 rfl ?_
      refine ab_aload_n C dX1_greatestWorth_37 rfl ?_
      refine ab_getR C dX1_greatestWorth_38 flX1_39 rkC_21 rfl mmC_21 ?_
      refine ab_getI C dX1_greatestWorth_41 flX1_65 rkC_1 rfl mmC_1 ?_
      obtain ⟨hg5, h⟩ := ab_grd h
      refine ab_iast C dX1_greatestWorth_44 rkC_34 mmC_34 hg5 ?_
      refine ab_nmS (fun σ6 eσ6 => ?_)
      replace h := ab_kh eσ6 h
      refine ab_aload_n C dX1_greatestWorth_45 rfl ?_
      refine ab_getR C dX1_greatestWorth_46 flX1_29 rkC_21 rfl mmC_21 ?_
      refine ab_iload_n C dX1_greatestWorth_49 rfl ?_
      refine ab_ldc2 C dX1_greatestWorth_50 cwX1_135 ?_
      obtain ⟨hg7, h⟩ := ab_grd h
      refine ab_last C dX1_greatestWorth_53 rkC_32 mmC_32 hg7 ?_
      refine ab_nmS (fun σ8 eσ8 => ?_)
      replace h := ab_kh eσ8 h
      refine ab_aload_n C dX1_greatestWorth_54 rfl ?_
      obtain ⟨q9, hq9, h⟩ := ab_bind h
      refine ab_inv0 C dX1_greatestWorth_55 mlX1_128 yvX1_layShares rkC_21 ⟨_, _, rfl⟩ mmC_21 (tX1_layShares l _ hq9) (Nat.le_of_ble_eq_true rfl) (Nat.le_of_ble_eq_true rfl) rfl (Nat.le_of_ble_eq_true rfl) ?_
      refine ab_iconst C dX1_greatestWorth_58 (v := 0) rfl ?_
      refine ab_istore_n C dX1_greatestWorth_59 (Nat.le_of_ble_eq_true rfl) ?_
      refine ab_weak (lv' := [some (.inr (.inr (21, 0))), some (.inl x1), some (.inl 0), none, none]) ⟨.inr rfl, ⟨.inr rfl, ⟨.inr rfl, ⟨.inl rfl, ⟨.inl rfl, trivial⟩⟩⟩⟩⟩ ?_
      exact gX1_greatestWorth_b60 C ab_N _ _ _ h
    · replace h := ab_pos hc4 h
      refine ab_aload_n C dX1_greatestWorth_25 rfl ?_
      refine ab_getR C dX1_greatestWorth_26 flX1_29 rkC_21 rfl mmC_21 ?_
      refine ab_iload_n C dX1_greatestWorth_29 rfl ?_
      obtain ⟨hg10, h⟩ := ab_grd h
      refine ab_lald C dX1_greatestWorth_30 rkC_32 mmC_32 hg10 ?_
      obtain rfl := Option.some.inj h
      exact ab_lret C dX1_greatestWorth_31
  · replace h := ab_pos hc2 h
    refine ab_lconst C dX1_greatestWorth_7 (v := 0) rfl ?_
    obtain rfl := Option.some.inj h
    exact ab_lret C dX1_greatestWorth_8
end
def fX5_forget (k0 : Nat) (σ : ab_S) : Option ab_S := (fJ7_fill_031fb k0 0 σ).bind fun q1 => some q1
section
variable {p : Program} {l : Launch} {e : Env} {s : State} {m : MethodId} {args : Array Value} {below : List Frame} {meth : Method} {c : Code} {D : va_G} {cA : Nat → ClassId} {ad : Nat → Nat → Nat}
set_option maxRecDepth 100000 in
set_option maxHeartbeats 4000000 in
theorem tX5_forget (l : Launch) (k0 : Nat) (σ : ab_S) (hk0 : k0 < 4) {R : ab_S} (h : fX5_forget k0 σ = some R) : ab_M l yC yX5_forget cX5_forget 1 none 1 [.inr (.inr (23, k0))] σ none R := by
  refine ab_M_intro ndC (by decide) (Nat.le_of_ble_eq_true rfl) ?_
  intro p e s m args below meth c D cA ad C
  have C : ab_C yC p s m args meth c D cA ad cX5_forget 1 RX5 none := C
  refine ab_weak (lv' := [some (.inr (.inr (23, k0)))]) ⟨.inr rfl, trivial⟩ ?_
  refine ab_aload_n C dX5_forget_0 rfl ?_
  refine ab_getR C dX5_forget_1 flX5_18 rkC_23 rfl (mmC_23 (hk0)) ?_
  refine ab_iconst C dX5_forget_4 (v := 0) rfl ?_
  obtain ⟨q1, hq1, h⟩ := ab_bind h
  refine ab_invS0 C dX5_forget_5 mlX5_48 ysJ7_fill_031fb (tJ7_fill_031fb l _ _ _ (hk0) hq1) (Nat.le_of_ble_eq_true rfl) (Nat.le_of_ble_eq_true rfl) rfl (Nat.le_of_ble_eq_true rfl) ?_
  obtain rfl := Option.some.inj h
  exact ab_vret C dX5_forget_8
end
def fX5_meet_b16 (σ : ab_S) : Option ab_S := some σ
def fX5_meet (k0 : Nat) (x1 : Int32) (σ : ab_S) : Option ab_S := ab_k (ab_si σ 23 k0 6 x1) fun σ1 => (if (σ1.1 23 k0 5) = 0 then fX5_meet_b16 σ1 else (fX5_forget k0 σ1).bind fun q3 => fX5_meet_b16 q3)
section
variable {p : Program} {l : Launch} {e : Env} {s : State} {m : MethodId} {args : Array Value} {below : List Frame} {meth : Method} {c : Code} {D : va_G} {cA : Nat → ClassId} {ad : Nat → Nat → Nat}
set_option maxRecDepth 100000 in
set_option maxHeartbeats 4000000 in
theorem gX5_meet_b16 {R : ab_S} (C : ab_C yC p s m args meth c D cA ad cX5_meet 2 RX5 none) (σ : ab_S) (h : fX5_meet_b16 σ = some R) : ab_G yC p l e s m args below meth c D cA ad 2 2 none R 16 [none, none] [] σ := by
  obtain rfl := Option.some.inj h
  exact ab_vret C dX5_meet_16
set_option maxRecDepth 100000 in
set_option maxHeartbeats 4000000 in
theorem tX5_meet (l : Launch) (k0 : Nat) (x1 : Int32) (σ : ab_S) (hk0 : k0 < 4) {R : ab_S} (h : fX5_meet k0 x1 σ = some R) : ab_M l yC yX5_meet cX5_meet 2 none 2 [.inr (.inr (23, k0)), .inl x1] σ none R := by
  refine ab_M_intro ndC (by decide) (Nat.le_of_ble_eq_true rfl) ?_
  intro p e s m args below meth c D cA ad C
  have C : ab_C yC p s m args meth c D cA ad cX5_meet 2 RX5 none := C
  refine ab_weak (lv' := [some (.inr (.inr (23, k0))), some (.inl x1)]) ⟨.inr rfl, ⟨.inr rfl, trivial⟩⟩ ?_
  refine ab_aload_n C dX5_meet_0 rfl ?_
  refine ab_iload_n C dX5_meet_1 rfl ?_
  refine ab_putI C dX5_meet_2 fpX5_45 rkC_23 rfl (mmC_23 (hk0)) rfl rfl ?_
  refine ab_nmS (fun σ1 eσ1 => ?_)
  replace h := ab_kh eσ1 h
  refine ab_aload_n C dX5_meet_5 rfl ?_
  refine ab_getI C dX5_meet_6 flX5_38 rkC_23 rfl (mmC_23 (hk0)) ?_
  refine ab_if_eq C (tgt := 16) dX5_meet_9 (by decide) (fun hc2 => ?_) (fun hc2 => ?_)
  · replace h := ab_pos hc2 h
    refine ab_weak (lv' := [none, none]) ⟨.inl rfl, ⟨.inl rfl, trivial⟩⟩ ?_
    exact gX5_meet_b16 C _ h
  · replace h := ab_neg hc2 h
    refine ab_aload_n C dX5_meet_12 rfl ?_
    obtain ⟨q3, hq3, h⟩ := ab_bind h
    refine ab_inv0 C dX5_meet_13 mlX5_42 yvX5_forget rkC_23 ⟨_, _, rfl⟩ (mmC_23 (hk0)) (tX5_forget l _ _ (hk0) hq3) (Nat.le_of_ble_eq_true rfl) (Nat.le_of_ble_eq_true rfl) rfl (Nat.le_of_ble_eq_true rfl) ?_
    refine ab_weak (lv' := [none, none]) ⟨.inl rfl, ⟨.inl rfl, trivial⟩⟩ ?_
    exact gX5_meet_b16 C _ h
end
def fX1_layLaws_b2_o (kk2 : Int32 → ab_S → Option ab_S) (v1 : Int32) (σ : ab_S) : Option ab_S := (if 4 ≤ v1 then some σ else (if ab_inb v1 4 = true then (fX5_meet v1.toNatClampNeg (σ.1 1 0 3) σ).bind fun q3 => kk2 (v1 + 1) q3 else none))
def fX1_layLaws_b2 : Nat → Int32 → ab_S → Option ab_S
  | 0 => fun _ _ => none
  | n + 1 => fX1_layLaws_b2_o  (fX1_layLaws_b2 n)
def fX1_layLaws (σ : ab_S) : Option ab_S := fX1_layLaws_b2 ab_N 0 σ
section
variable {p : Program} {l : Launch} {e : Env} {s : State} {m : MethodId} {args : Array Value} {below : List Frame} {meth : Method} {c : Code} {D : va_G} {cA : Nat → ClassId} {ad : Nat → Nat → Nat}
set_option maxRecDepth 100000 in
set_option maxHeartbeats 4000000 in
theorem gX1_layLaws_b2_o {R : ab_S} (C : ab_C yC p s m args meth c D cA ad cX1_layLaws 2 RX1 none) {kk2 : Int32 → ab_S → Option ab_S} (hk2 : ∀ (v1 : Int32) (σ : ab_S), kk2 v1 σ = some R → ab_G yC p l e s m args below meth c D cA ad 2 3 none R 2 [some (.inr (.inr (21, 0))), some (.inl v1)] [] σ) (v1 : Int32) (σ : ab_S) (h : fX1_layLaws_b2_o kk2 v1 σ = some R) : ab_G yC p l e s m args below meth c D cA ad 2 3 none R 2 [some (.inr (.inr (21, 0))), some (.inl v1)] [] σ := by
  refine ab_iload_n C dX1_layLaws_2 rfl ?_
  refine ab_iconst C dX1_layLaws_3 (v := 4) rfl ?_
  refine ab_icmp_ge C (tgt := 29) dX1_layLaws_4 (by decide) (fun hc1 => ?_) (fun hc1 => ?_)
  · replace h := ab_pos hc1 h
    obtain rfl := Option.some.inj h
    exact ab_vret C dX1_layLaws_29
  · replace h := ab_neg hc1 h
    refine ab_aload_n C dX1_layLaws_7 rfl ?_
    refine ab_getR C dX1_layLaws_8 flX1_11 rkC_21 rfl mmC_21 ?_
    refine ab_iload_n C dX1_layLaws_11 rfl ?_
    obtain ⟨hg2, h⟩ := ab_grd h
    refine ab_aald3 C dX1_layLaws_12 rkC_22 mmC_22 hg2 ?_
    refine ab_aload_n C dX1_layLaws_13 rfl ?_
    refine ab_getR C dX1_layLaws_14 flX1_39 rkC_21 rfl mmC_21 ?_
    refine ab_getI C dX1_layLaws_17 flX1_47 rkC_1 rfl mmC_1 ?_
    obtain ⟨q3, hq3, h⟩ := ab_bind h
    refine ab_inv0 C dX1_layLaws_20 mlX1_53 yvX5_meet rkC_23 ⟨_, _, rfl⟩ (mmC_23 (ab_inb_lt hg2)) (tX5_meet l _ _ _ (ab_inb_lt hg2) hq3) (Nat.le_of_ble_eq_true rfl) (Nat.le_of_ble_eq_true rfl) rfl (Nat.le_of_ble_eq_true rfl) ?_
    refine ab_iinc C dX1_layLaws_23 rfl (v := 1) rfl (Nat.le_of_ble_eq_true rfl) ?_
    refine ab_goto C (tgt := 2) dX1_layLaws_26 (by decide) ?_
    refine ab_weak (lv' := [some (.inr (.inr (21, 0))), some (.inl (v1 + 1))]) ⟨.inr rfl, ⟨.inr rfl, trivial⟩⟩ ?_
    exact hk2 _ _ h
theorem gX1_layLaws_b2 {R : ab_S} (C : ab_C yC p s m args meth c D cA ad cX1_layLaws 2 RX1 none) : ∀ (j : Nat) (v1 : Int32) (σ : ab_S), fX1_layLaws_b2 j v1 σ = some R → ab_G yC p l e s m args below meth c D cA ad 2 3 none R 2 [some (.inr (.inr (21, 0))), some (.inl v1)] [] σ := by
  intro j
  induction j with
  | zero => intro v1 σ  h; cases h
  | succ j ih => intro v1 σ  h; exact gX1_layLaws_b2_o C ih _ _ h
set_option maxRecDepth 100000 in
set_option maxHeartbeats 4000000 in
theorem tX1_layLaws (l : Launch) (σ : ab_S) {R : ab_S} (h : fX1_layLaws σ = some R) : ab_M l yC yX1_layLaws cX1_layLaws 2 none 3 [.inr (.inr (21, 0))] σ none R := by
  refine ab_M_intro ndC (by decide) (Nat.le_of_ble_eq_true rfl) ?_
  intro p e s m args below meth c D cA ad C
  have C : ab_C yC p s m args meth c D cA ad cX1_layLaws 2 RX1 none := C
  refine ab_weak (lv' := [some (.inr (.inr (21, 0))), none]) ⟨.inr rfl, ⟨.inl rfl, trivial⟩⟩ ?_
  refine ab_iconst C dX1_layLaws_0 (v := 0) rfl ?_
  refine ab_istore_n C dX1_layLaws_1 (Nat.le_of_ble_eq_true rfl) ?_
  refine ab_weak (lv' := [some (.inr (.inr (21, 0))), some (.inl 0)]) ⟨.inr rfl, ⟨.inr rfl, trivial⟩⟩ ?_
  exact gX1_layLaws_b2 C ab_N _ _ h
end
