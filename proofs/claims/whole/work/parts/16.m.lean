def fX9_image (σ : ab_S) : Option (Int32 × ab_S) := (fX4_become_r9_5 σ).bind fun q1 => ab_k (ab_si q1 0 0 3 1) fun σ2 => some (σ2.1 5 0 3, σ2)
section
variable {p : Program} {l : Launch} {e : Env} {s : State} {m : MethodId} {args : Array Value} {below : List Frame} {meth : Method} {c : Code} {D : va_G} {cA : Nat → ClassId} {ad : Nat → Nat → Nat}
set_option maxRecDepth 100000 in
set_option maxHeartbeats 4000000 in
theorem tX9_image (l : Launch) (σ : ab_S) {R : (Int32 × ab_S)} (h : fX9_image σ = some R) : ab_M l yC yX9_image cX9_image 1 (some .int) 2 [.inr (.inr (0, 0))] σ (some (.inl R.1)) R.2 := by
  refine ab_M_intro ndC (by decide) (Nat.le_of_ble_eq_true rfl) ?_
  intro p e s m args below meth c D cA ad C
  have C : ab_C yC p s m args meth c D cA ad cX9_image 1 RX9 (some .int) := C
  refine ab_weak (lv' := [some (.inr (.inr (0, 0)))]) ⟨.inr rfl, trivial⟩ ?_
  refine ab_aload_n C dX9_image_0 rfl ?_
  refine ab_getR C dX9_image_1 flX9_23 rkC_0 rfl mmC_0 ?_
  refine ab_aload_n C dX9_image_4 rfl ?_
  refine ab_getR C dX9_image_5 flX9_19 rkC_0 rfl mmC_0 ?_
  obtain ⟨q1, hq1, h⟩ := ab_bind h
  refine ab_inv0 C dX9_image_8 mlX9_304 yvX4_become rkC_9 ⟨_, _, rfl⟩ mmC_9 (tX4_become_r9_5 l _ hq1) (Nat.le_of_ble_eq_true rfl) (Nat.le_of_ble_eq_true rfl) rfl (Nat.le_of_ble_eq_true rfl) ?_
  refine ab_aload_n C dX9_image_11 rfl ?_
  refine ab_iconst C dX9_image_12 (v := 1) rfl ?_
  refine ab_putI C dX9_image_13 fpX9_26 rkC_0 rfl mmC_0 rfl rfl ?_
  refine ab_nmS (fun σ2 eσ2 => ?_)
  replace h := ab_kh eσ2 h
  refine ab_aload_n C dX9_image_16 rfl ?_
  refine ab_getR C dX9_image_17 flX9_19 rkC_0 rfl mmC_0 ?_
  refine ab_getI C dX9_image_20 flX9_138 rkC_5 rfl mmC_5 ?_
  obtain rfl := Option.some.inj h
  exact ab_iret C dX9_image_23
end
def fX9_shareOfThree_b95 (σ : ab_S) : Option (Int64 × ab_S) := some (0, σ)
def fX9_shareOfThree_b117 (v3 : Int32) (v5 : Int32) (v6 : Int32) (v7 : Int32) (σ : ab_S) : Option (Int64 × ab_S) := (fX1_shareOf v3 0 0 v5 v6 v7 σ).bind fun q1 => some (q1.1, q1.2)
def fX9_shareOfThree (x1 : Int32) (x2 : Int32) (x3 : Int32) (σ : ab_S) : Option (Int64 × ab_S) := (fX6_hasPlaces x1 (3 * x2) 3 σ).bind fun q1 => (if q1 = 0 then some (0, σ) else (fX6_at x1 (3 * x2) σ).bind fun q3 => (fX6_at x1 ((3 * x2) + 1) σ).bind fun q4 => (fX6_at x1 ((3 * x2) + 2) σ).bind fun q5 => (fX7_has ((q3 : Int64).toInt32) σ).bind fun q6 => (if q6 = 0 then fX9_shareOfThree_b95 σ else (fX7_has ((q5 : Int64).toInt32) σ).bind fun q8 => (if q8 = 0 then fX9_shareOfThree_b95 σ else (if ((q4 : Int64).toInt32) = ((q3 : Int64).toInt32) then fX9_shareOfThree_b95 σ else (if ((q4 : Int64).toInt32) = ((-1)) then fX9_shareOfThree_b117 x3 ((q3 : Int64).toInt32) ((q4 : Int64).toInt32) ((q5 : Int64).toInt32) σ else (fX7_has ((q4 : Int64).toInt32) σ).bind fun q12 => (if q12 = 0 then some (0, σ) else fX9_shareOfThree_b117 x3 ((q3 : Int64).toInt32) ((q4 : Int64).toInt32) ((q5 : Int64).toInt32) σ))))))
section
variable {p : Program} {l : Launch} {e : Env} {s : State} {m : MethodId} {args : Array Value} {below : List Frame} {meth : Method} {c : Code} {D : va_G} {cA : Nat → ClassId} {ad : Nat → Nat → Nat}
set_option maxRecDepth 100000 in
set_option maxHeartbeats 4000000 in
theorem gX9_shareOfThree_b95 {R : (Int64 × ab_S)} (C : ab_C yC p s m args meth c D cA ad cX9_shareOfThree 8 RX9 (some .long)) (σ : ab_S) (h : fX9_shareOfThree_b95 σ = some R) : ab_G yC p l e s m args below meth c D cA ad 8 5 (some (.inr (.inl R.1))) R.2 95 [none, none, none, none, none, none, none, none] [] σ := by
  refine ab_lconst C dX9_shareOfThree_95 (v := 0) rfl ?_
  obtain rfl := Option.some.inj h
  exact ab_lret C dX9_shareOfThree_96
set_option maxRecDepth 100000 in
set_option maxHeartbeats 4000000 in
theorem gX9_shareOfThree_b117 {R : (Int64 × ab_S)} (C : ab_C yC p s m args meth c D cA ad cX9_shareOfThree 8 RX9 (some .long)) (v3 : Int32) (v5 : Int32) (v6 : Int32) (v7 : Int32) (σ : ab_S) (h : fX9_shareOfThree_b117 v3 v5 v6 v7 σ = some R) : ab_G yC p l e s m args below meth c D cA ad 8 5 (some (.inr (.inl R.1))) R.2 117 [some (.inr (.inr (0, 0))), none, none, some (.inl v3), none, some (.inl v5), some (.inl v6), some (.inl v7)] [] σ := by
  refine ab_aload_n C dX9_shareOfThree_117 rfl ?_
  refine ab_getR C dX9_shareOfThree_118 flX9_49 rkC_0 rfl mmC_0 ?_
  refine ab_iload_n C dX9_shareOfThree_121 rfl ?_
  refine ab_iconst C dX9_shareOfThree_122 (v := 0) rfl ?_
  refine ab_iconst C dX9_shareOfThree_123 (v := 0) rfl ?_
  refine ab_iload C dX9_shareOfThree_124 rfl ?_
  refine ab_iload C dX9_shareOfThree_126 rfl ?_
  refine ab_iload C dX9_shareOfThree_128 rfl ?_
  obtain ⟨q1, hq1, h⟩ := ab_bind h
  refine ab_inv1 C dX9_shareOfThree_130 mlX9_274 yvX1_shareOf rkC_21 ⟨_, _, rfl⟩ mmC_21 (tX1_shareOf l _ _ _ _ _ _ _ hq1) (Nat.le_of_ble_eq_true rfl) (Nat.le_of_ble_eq_true rfl) rfl (Nat.le_of_ble_eq_true rfl) ?_
  obtain rfl := Option.some.inj h
  exact ab_lret C dX9_shareOfThree_133
set_option maxRecDepth 100000 in
set_option maxHeartbeats 4000000 in
theorem tX9_shareOfThree (l : Launch) (x1 : Int32) (x2 : Int32) (x3 : Int32) (σ : ab_S) {R : (Int64 × ab_S)} (h : fX9_shareOfThree x1 x2 x3 σ = some R) : ab_M l yC yX9_shareOfThree cX9_shareOfThree 8 (some .long) 5 [.inr (.inr (0, 0)), .inl x1, .inl x2, .inl x3] σ (some (.inr (.inl R.1))) R.2 := by
  refine ab_M_intro ndC (by decide) (Nat.le_of_ble_eq_true rfl) ?_
  intro p e s m args below meth c D cA ad C
  have C : ab_C yC p s m args meth c D cA ad cX9_shareOfThree 8 RX9 (some .long) := C
  refine ab_weak (lv' := [some (.inr (.inr (0, 0))), some (.inl x1), some (.inl x2), some (.inl x3), none, none, none, none]) ⟨.inr rfl, ⟨.inr rfl, ⟨.inr rfl, ⟨.inr rfl, ⟨.inl rfl, ⟨.inl rfl, ⟨.inl rfl, ⟨.inl rfl, trivial⟩⟩⟩⟩⟩⟩⟩⟩ ?_
  refine ab_iconst C dX9_shareOfThree_0 (v := 3) rfl ?_
  refine ab_iload_n C dX9_shareOfThree_1 rfl ?_
  refine ab_imul C dX9_shareOfThree_2  ?_
  refine ab_istore C dX9_shareOfThree_3 (Nat.le_of_ble_eq_true rfl) ?_
  refine ab_aload_n C dX9_shareOfThree_5 rfl ?_
  refine ab_getR C dX9_shareOfThree_6 flX9_72 rkC_0 rfl mmC_0 ?_
  refine ab_iload_n C dX9_shareOfThree_9 rfl ?_
  refine ab_iload C dX9_shareOfThree_10 rfl ?_
  refine ab_iconst C dX9_shareOfThree_12 (v := 3) rfl ?_
  obtain ⟨q1, hq1, h⟩ := ab_bind h
  refine ab_inv1 C dX9_shareOfThree_13 mlX9_104 yvX6_hasPlaces rkC_39 ⟨_, _, rfl⟩ mmC_39 (tX6_hasPlaces l _ _ _ _ hq1) (Nat.le_of_ble_eq_true rfl) (Nat.le_of_ble_eq_true rfl) rfl (Nat.le_of_ble_eq_true rfl) ?_
  refine ab_if_ne C (tgt := 21) dX9_shareOfThree_16 (by decide) (fun hc2 => ?_) (fun hc2 => ?_)
  · replace h := ab_neg hc2 h
    refine ab_aload_n C dX9_shareOfThree_21 rfl ?_
    refine ab_getR C dX9_shareOfThree_22 flX9_72 rkC_0 rfl mmC_0 ?_
    refine ab_iload_n C dX9_shareOfThree_25 rfl ?_
    refine ab_iload C dX9_shareOfThree_26 rfl ?_
    obtain ⟨q3, hq3, h⟩ := ab_bind h
    refine ab_inv1 C dX9_shareOfThree_28 mlX9_108 yvX6_at rkC_39 ⟨_, _, rfl⟩ mmC_39 (tX6_at l _ _ _ hq3) (Nat.le_of_ble_eq_true rfl) (Nat.le_of_ble_eq_true rfl) rfl (Nat.le_of_ble_eq_true rfl) ?_
    refine ab_l2i C dX9_shareOfThree_31  ?_
    refine ab_istore C dX9_shareOfThree_32 (Nat.le_of_ble_eq_true rfl) ?_
    refine ab_aload_n C dX9_shareOfThree_34 rfl ?_
    refine ab_getR C dX9_shareOfThree_35 flX9_72 rkC_0 rfl mmC_0 ?_
    refine ab_iload_n C dX9_shareOfThree_38 rfl ?_
    refine ab_iload C dX9_shareOfThree_39 rfl ?_
    refine ab_iconst C dX9_shareOfThree_41 (v := 1) rfl ?_
    refine ab_iadd C dX9_shareOfThree_42  ?_
    obtain ⟨q4, hq4, h⟩ := ab_bind h
    refine ab_inv1 C dX9_shareOfThree_43 mlX9_108 yvX6_at rkC_39 ⟨_, _, rfl⟩ mmC_39 (tX6_at l _ _ _ hq4) (Nat.le_of_ble_eq_true rfl) (Nat.le_of_ble_eq_true rfl) rfl (Nat.le_of_ble_eq_true rfl) ?_
    refine ab_l2i C dX9_shareOfThree_46  ?_
    refine ab_istore C dX9_shareOfThree_47 (Nat.le_of_ble_eq_true rfl) ?_
    refine ab_weak (lv' := [some (.inr (.inr (0, 0))), some (.inl x1), some (.inl x2), some (.inl x3), some (.inl (3 * x2)), some (.inl ((q3 : Int64).toInt32)), some (.inl ((q4 : Int64).toInt32)), none]) ⟨.inr rfl, ⟨.inr rfl, ⟨.inr rfl, ⟨.inr rfl, ⟨.inr rfl, ⟨.inr rfl, ⟨.inr rfl, ⟨.inl rfl, trivial⟩⟩⟩⟩⟩⟩⟩⟩ ?_
    refine ab_aload_n C dX9_shareOfThree_49 rfl ?_
    refine ab_getR C dX9_shareOfThree_50 flX9_72 rkC_0 rfl mmC_0 ?_
    refine ab_iload_n C dX9_shareOfThree_53 rfl ?_
    refine ab_iload C dX9_shareOfThree_54 rfl ?_
    refine ab_iconst C dX9_shareOfThree_56 (v := 2) rfl ?_
    refine ab_iadd C dX9_shareOfThree_57  ?_
    obtain ⟨q5, hq5, h⟩ := ab_bind h
    refine ab_inv1 C dX9_shareOfThree_58 mlX9_108 yvX6_at rkC_39 ⟨_, _, rfl⟩ mmC_39 (tX6_at l _ _ _ hq5) (Nat.le_of_ble_eq_true rfl) (Nat.le_of_ble_eq_true rfl) rfl (Nat.le_of_ble_eq_true rfl) ?_
    refine ab_l2i C dX9_shareOfThree_61  ?_
    refine ab_istore C dX9_shareOfThree_62 (Nat.le_of_ble_eq_true rfl) ?_
    refine ab_aload_n C dX9_shareOfThree_64 rfl ?_
    refine ab_getR C dX9_shareOfThree_65 flX9_10 rkC_0 rfl mmC_0 ?_
    refine ab_iload C dX9_shareOfThree_68 rfl ?_
    obtain ⟨q6, hq6, h⟩ := ab_bind h
    refine ab_inv1 C dX9_shareOfThree_70 mlX9_103 yvX7_has rkC_1 ⟨_, _, rfl⟩ mmC_1 (tX7_has l _ _ hq6) (Nat.le_of_ble_eq_true rfl) (Nat.le_of_ble_eq_true rfl) rfl (Nat.le_of_ble_eq_true rfl) ?_
    refine ab_if_eq C (tgt := 95) dX9_shareOfThree_73 (by decide) (fun hc7 => ?_) (fun hc7 => ?_)
    · replace h := ab_pos hc7 h
      refine ab_weak (lv' := [none, none, none, none, none, none, none, none]) ⟨.inl rfl, ⟨.inl rfl, ⟨.inl rfl, ⟨.inl rfl, ⟨.inl rfl, ⟨.inl rfl, ⟨.inl rfl, ⟨.inl rfl, trivial⟩⟩⟩⟩⟩⟩⟩⟩ ?_
      exact gX9_shareOfThree_b95 C _ h
    · replace h := ab_neg hc7 h
      refine ab_aload_n C dX9_shareOfThree_76 rfl ?_
      refine ab_getR C dX9_shareOfThree_77 flX9_10 rkC_0 rfl mmC_0 ?_
      refine ab_iload C dX9_shareOfThree_80 rfl ?_
      obtain ⟨q8, hq8, h⟩ := ab_bind h
      refine ab_inv1 C dX9_shareOfThree_82 mlX9_103 yvX7_has rkC_1 ⟨_, _, rfl⟩ mmC_1 (tX7_has l _ _ hq8) (Nat.le_of_ble_eq_true rfl) (Nat.le_of_ble_eq_true rfl) rfl (Nat.le_of_ble_eq_true rfl) ?_
      refine ab_if_eq C (tgt := 95) dX9_shareOfThree_85 (by decide) (fun hc9 => ?_) (fun hc9 => ?_)
      · replace h := ab_pos hc9 h
        refine ab_weak (lv' := [none, none, none, none, none, none, none, none]) ⟨.inl rfl, ⟨.inl rfl, ⟨.inl rfl, ⟨.inl rfl, ⟨.inl rfl, ⟨.inl rfl, ⟨.inl rfl, ⟨.inl rfl, trivial⟩⟩⟩⟩⟩⟩⟩⟩ ?_
        exact gX9_shareOfThree_b95 C _ h
      · replace h := ab_neg hc9 h
        refine ab_iload C dX9_shareOfThree_88 rfl ?_
        refine ab_iload C dX9_shareOfThree_90 rfl ?_
        refine ab_icmp_ne C (tgt := 97) dX9_shareOfThree_92 (by decide) (fun hc10 => ?_) (fun hc10 => ?_)
        · replace h := ab_neg hc10 h
          refine ab_iload C dX9_shareOfThree_97 rfl ?_
          refine ab_iconst C dX9_shareOfThree_99 (v := (-1)) rfl ?_
          refine ab_icmp_eq C (tgt := 117) dX9_shareOfThree_100 (by decide) (fun hc11 => ?_) (fun hc11 => ?_)
          · replace h := ab_pos hc11 h
            refine ab_weak (lv' := [some (.inr (.inr (0, 0))), none, none, some (.inl x3), none, some (.inl ((q3 : Int64).toInt32)), some (.inl ((q4 : Int64).toInt32)), some (.inl ((q5 : Int64).toInt32))]) ⟨.inr rfl, ⟨.inl rfl, ⟨.inl rfl, ⟨.inr rfl, ⟨.inl rfl, ⟨.inr rfl, ⟨.inr rfl, ⟨.inr rfl, trivial⟩⟩⟩⟩⟩⟩⟩⟩ ?_
            exact gX9_shareOfThree_b117 C _ _ _ _ _ h
          · replace h := ab_neg hc11 h
            refine ab_aload_n C dX9_shareOfThree_103 rfl ?_
            refine ab_getR C dX9_shareOfThree_104 flX9_10 rkC_0 rfl mmC_0 ?_
            refine ab_iload C dX9_shareOfThree_107 rfl ?_
            obtain ⟨q12, hq12, h⟩ := ab_bind h
            refine ab_inv1 C dX9_shareOfThree_109 mlX9_103 yvX7_has rkC_1 ⟨_, _, rfl⟩ mmC_1 (tX7_has l _ _ hq12) (Nat.le_of_ble_eq_true rfl) (Nat.le_of_ble_eq_true rfl) rfl (Nat.le_of_ble_eq_true rfl) ?_
            refine ab_if_ne C (tgt := 117) dX9_shareOfThree_112 (by decide) (fun hc13 => ?_) (fun hc13 => ?_)
            · replace h := ab_neg hc13 h
              refine ab_weak (lv' := [some (.inr (.inr (0, 0))), none, none, some (.inl x3), none, some (.inl ((q3 : Int64).toInt32)), some (.inl ((q4 : Int64).toInt32)), some (.inl ((q5 : Int64).toInt32))]) ⟨.inr rfl, ⟨.inl rfl, ⟨.inl rfl, ⟨.inr rfl, ⟨.inl rfl, ⟨.inr rfl, ⟨.inr rfl, ⟨.inr rfl, trivial⟩⟩⟩⟩⟩⟩⟩⟩ ?_
              exact gX9_shareOfThree_b117 C _ _ _ _ _ h
            · replace h := ab_pos hc13 h
              refine ab_lconst C dX9_shareOfThree_115 (v := 0) rfl ?_
              obtain rfl := Option.some.inj h
              exact ab_lret C dX9_shareOfThree_116
        · replace h := ab_pos hc10 h
          refine ab_weak (lv' := [none, none, none, none, none, none, none, none]) ⟨.inl rfl, ⟨.inl rfl, ⟨.inl rfl, ⟨.inl rfl, ⟨.inl rfl, ⟨.inl rfl, ⟨.inl rfl, ⟨.inl rfl, trivial⟩⟩⟩⟩⟩⟩⟩⟩ ?_
          exact gX9_shareOfThree_b95 C _ h
  · replace h := ab_pos hc2 h
    refine ab_lconst C dX9_shareOfThree_19 (v := 0) rfl ?_
    obtain rfl := Option.some.inj h
    exact ab_lret C dX9_shareOfThree_20
end
def fX9_isBySome_b33 (kk3 : Int32 → Int32 → Int32 → Int32 → ab_S → Option (Int32 × ab_S)) (v1 : Int32) (v2 : Int32) (v3 : Int32) (v4 : Int32) (σ : ab_S) : Option (Int32 × ab_S) := kk3 v1 v2 v3 (v4 + 1) σ
def fX9_isBySome_b3_o (kk3 : Int32 → Int32 → Int32 → Int32 → ab_S → Option (Int32 × ab_S)) (v1 : Int32) (v2 : Int32) (v3 : Int32) (v4 : Int32) (σ : ab_S) : Option (Int32 × ab_S) := (if 4 ≤ v4 then some (0, σ) else (fX9_isIn v3 v4).bind fun q2 => (if q2 = 0 then fX9_isBySome_b33 kk3 v1 v2 v3 v4 σ else (fX9_shareOfThree v1 v2 v4 σ).bind fun q4 => (if (lg_cmp q4.1 0) ≤ 0 then fX9_isBySome_b33 kk3 v1 v2 v3 v4 q4.2 else some (1, q4.2))))
def fX9_isBySome_b3 : Nat → Int32 → Int32 → Int32 → Int32 → ab_S → Option (Int32 × ab_S)
  | 0 => fun _ _ _ _ _ => none
  | n + 1 => fX9_isBySome_b3_o  (fX9_isBySome_b3 n)
def fX9_isBySome (x1 : Int32) (x2 : Int32) (x3 : Int32) (σ : ab_S) : Option (Int32 × ab_S) := fX9_isBySome_b3 ab_N x1 x2 x3 0 σ
section
variable {p : Program} {l : Launch} {e : Env} {s : State} {m : MethodId} {args : Array Value} {below : List Frame} {meth : Method} {c : Code} {D : va_G} {cA : Nat → ClassId} {ad : Nat → Nat → Nat}
set_option maxRecDepth 100000 in
set_option maxHeartbeats 4000000 in
theorem gX9_isBySome_b33 {R : (Int32 × ab_S)} (C : ab_C yC p s m args meth c D cA ad cX9_isBySome 5 RX9 (some .boolean)) {kk3 : Int32 → Int32 → Int32 → Int32 → ab_S → Option (Int32 × ab_S)} (hk3 : ∀ (v1 : Int32) (v2 : Int32) (v3 : Int32) (v4 : Int32) (σ : ab_S), kk3 v1 v2 v3 v4 σ = some R → ab_G yC p l e s m args below meth c D cA ad 5 6 (some (.inl R.1)) R.2 3 [some (.inr (.inr (0, 0))), some (.inl v1), some (.inl v2), some (.inl v3), some (.inl v4)] [] σ) (v1 : Int32) (v2 : Int32) (v3 : Int32) (v4 : Int32) (σ : ab_S) (h : fX9_isBySome_b33 kk3 v1 v2 v3 v4 σ = some R) : ab_G yC p l e s m args below meth c D cA ad 5 6 (some (.inl R.1)) R.2 33 [some (.inr (.inr (0, 0))), some (.inl v1), some (.inl v2), some (.inl v3), some (.inl v4)] [] σ := by
  refine ab_iinc C dX9_isBySome_33 rfl (v := 1) rfl (Nat.le_of_ble_eq_true rfl) ?_
  refine ab_goto C (tgt := 3) dX9_isBySome_36 (by decide) ?_
  refine ab_weak (lv' := [some (.inr (.inr (0, 0))), some (.inl v1), some (.inl v2), some (.inl v3), some (.inl (v4 + 1))]) ⟨.inr rfl, ⟨.inr rfl, ⟨.inr rfl, ⟨.inr rfl, ⟨.inr rfl, trivial⟩⟩⟩⟩⟩ ?_
  exact hk3 _ _ _ _ _ h
set_option maxRecDepth 100000 in
set_option maxHeartbeats 4000000 in
theorem gX9_isBySome_b3_o {R : (Int32 × ab_S)} (C : ab_C yC p s m args meth c D cA ad cX9_isBySome 5 RX9 (some .boolean)) {kk3 : Int32 → Int32 → Int32 → Int32 → ab_S → Option (Int32 × ab_S)} (hk3 : ∀ (v1 : Int32) (v2 : Int32) (v3 : Int32) (v4 : Int32) (σ : ab_S), kk3 v1 v2 v3 v4 σ = some R → ab_G yC p l e s m args below meth c D cA ad 5 6 (some (.inl R.1)) R.2 3 [some (.inr (.inr (0, 0))), some (.inl v1), some (.inl v2), some (.inl v3), some (.inl v4)] [] σ) (v1 : Int32) (v2 : Int32) (v3 : Int32) (v4 : Int32) (σ : ab_S) (h : fX9_isBySome_b3_o kk3 v1 v2 v3 v4 σ = some R) : ab_G yC p l e s m args below meth c D cA ad 5 6 (some (.inl R.1)) R.2 3 [some (.inr (.inr (0, 0))), some (.inl v1), some (.inl v2), some (.inl v3), some (.inl v4)] [] σ := by
  refine ab_iload C dX9_isBySome_3 rfl ?_
  refine ab_iconst C dX9_isBySome_5 (v := 4) rfl ?_
  refine ab_icmp_ge C (tgt := 39) dX9_isBySome_6 (by decide) (fun hc1 => ?_) (fun hc1 => ?_)
  · replace h := ab_pos hc1 h
    refine ab_iconst C dX9_isBySome_39 (v := 0) rfl ?_
    obtain rfl := Option.some.inj h
    exact ab_zret C dX9_isBySome_40 rfl
  · replace h := ab_neg hc1 h
    refine ab_iload_n C dX9_isBySome_9 rfl ?_
    refine ab_iload C dX9_isBySome_10 rfl ?_
    obtain ⟨q2, hq2, h⟩ := ab_bind h
    refine ab_invS1 C dX9_isBySome_12 mlX9_246 ysX9_isIn (tX9_isIn l _ _ _ hq2) (Nat.le_of_ble_eq_true rfl) (Nat.le_of_ble_eq_true rfl) rfl (Nat.le_of_ble_eq_true rfl) ?_
    refine ab_if_eq C (tgt := 33) dX9_isBySome_15 (by decide) (fun hc3 => ?_) (fun hc3 => ?_)
    · replace h := ab_pos hc3 h
      refine ab_weak (lv' := [some (.inr (.inr (0, 0))), some (.inl v1), some (.inl v2), some (.inl v3), some (.inl v4)]) ⟨.inr rfl, ⟨.inr rfl, ⟨.inr rfl, ⟨.inr rfl, ⟨.inr rfl, trivial⟩⟩⟩⟩⟩ ?_
      exact gX9_isBySome_b33 C hk3 _ _ _ _ _ h
    · replace h := ab_neg hc3 h
      refine ab_aload_n C dX9_isBySome_18 rfl ?_
      refine ab_iload_n C dX9_isBySome_19 rfl ?_
      refine ab_iload_n C dX9_isBySome_20 rfl ?_
      refine ab_iload C dX9_isBySome_21 rfl ?_
      obtain ⟨q4, hq4, h⟩ := ab_bind h
      refine ab_inv1 C dX9_isBySome_23 mlX9_268 yvX9_shareOfThree rkC_0 ⟨_, _, rfl⟩ mmC_0 (tX9_shareOfThree l _ _ _ _ hq4) (Nat.le_of_ble_eq_true rfl) (Nat.le_of_ble_eq_true rfl) rfl (Nat.le_of_ble_eq_true rfl) ?_
      refine ab_lconst C dX9_isBySome_26 (v := 0) rfl ?_
      refine ab_lcmp C dX9_isBySome_27  ?_
      refine ab_if_le C (tgt := 33) dX9_isBySome_28 (by decide) (fun hc5 => ?_) (fun hc5 => ?_)
      · replace h := ab_pos hc5 h
        refine ab_weak (lv' := [some (.inr (.inr (0, 0))), some (.inl v1), some (.inl v2), some (.inl v3), some (.inl v4)]) ⟨.inr rfl, ⟨.inr rfl, ⟨.inr rfl, ⟨.inr rfl, ⟨.inr rfl, trivial⟩⟩⟩⟩⟩ ?_
        exact gX9_isBySome_b33 C hk3 _ _ _ _ _ h
      · replace h := ab_neg hc5 h
        refine ab_iconst C dX9_isBySome_31 (v := 1) rfl ?_
        obtain rfl := Option.some.inj h
        exact ab_zret C dX9_isBySome_32 rfl
theorem gX9_isBySome_b3 {R : (Int32 × ab_S)} (C : ab_C yC p s m args meth c D cA ad cX9_isBySome 5 RX9 (some .boolean)) : ∀ (j : Nat) (v1 : Int32) (v2 : Int32) (v3 : Int32) (v4 : Int32) (σ : ab_S), fX9_isBySome_b3 j v1 v2 v3 v4 σ = some R → ab_G yC p l e s m args below meth c D cA ad 5 6 (some (.inl R.1)) R.2 3 [some (.inr (.inr (0, 0))), some (.inl v1), some (.inl v2), some (.inl v3), some (.inl v4)] [] σ := by
  intro j
  induction j with
  | zero => intro v1 v2 v3 v4 σ  h; cases h
  | succ j ih => intro v1 v2 v3 v4 σ  h; exact gX9_isBySome_b3_o C ih _ _ _ _ _ h
set_option maxRecDepth 100000 in
set_option maxHeartbeats 4000000 in
theorem tX9_isBySome (l : Launch) (x1 : Int32) (x2 : Int32) (x3 : Int32) (σ : ab_S) {R : (Int32 × ab_S)} (h : fX9_isBySome x1 x2 x3 σ = some R) : ab_M l yC yX9_isBySome cX9_isBySome 5 (some .boolean) 6 [.inr (.inr (0, 0)), .inl x1, .inl x2, .inl x3] σ (some (.inl R.1)) R.2 := by
  refine ab_M_intro ndC (by decide) (Nat.le_of_ble_eq_true rfl) ?_
  intro p e s m args below meth c D cA ad C
  have C : ab_C yC p s m args meth c D cA ad cX9_isBySome 5 RX9 (some .boolean) := C
  refine ab_weak (lv' := [some (.inr (.inr (0, 0))), some (.inl x1), some (.inl x2), some (.inl x3), none]) ⟨.inr rfl, ⟨.inr rfl, ⟨.inr rfl, ⟨.inr rfl, ⟨.inl rfl, trivial⟩⟩⟩⟩⟩ ?_
  refine ab_iconst C dX9_isBySome_0 (v := 0) rfl ?_
  refine ab_istore C dX9_isBySome_1 (Nat.le_of_ble_eq_true rfl) ?_
  refine ab_weak (lv' := [some (.inr (.inr (0, 0))), some (.inl x1), some (.inl x2), some (.inl x3), some (.inl 0)]) ⟨.inr rfl, ⟨.inr rfl, ⟨.inr rfl, ⟨.inr rfl, ⟨.inr rfl, trivial⟩⟩⟩⟩⟩ ?_
  exact gX9_isBySome_b3 C ab_N _ _ _ _ _ h
end
def fX9_isWeight_b15 (t0 : Int32) : Option Int32 := (if ab_isb t0 = true then some t0 else none)
def fX9_isWeight_b14 : Option Int32 := fX9_isWeight_b15 0
def fX9_isWeight (x0 : Int32) : Option Int32 := (if x0 < 0 then fX9_isWeight_b14 else (if 12 < x0 then fX9_isWeight_b14 else fX9_isWeight_b15 1))
section
variable {p : Program} {l : Launch} {e : Env} {s : State} {m : MethodId} {args : Array Value} {below : List Frame} {meth : Method} {c : Code} {D : va_G} {cA : Nat → ClassId} {ad : Nat → Nat → Nat}
set_option maxRecDepth 100000 in
set_option maxHeartbeats 4000000 in
theorem gX9_isWeight_b15 {R : Int32} (C : ab_C yC p s m args meth c D cA ad cX9_isWeight 1 RX9 (some .boolean)) {σ : ab_S} (t0 : Int32) (h : fX9_isWeight_b15 t0 = some R) : ab_G yC p l e s m args below meth c D cA ad 1 0 (some (.inl R)) σ 15 [none] [.inl t0] σ := by
  obtain ⟨hg1, h⟩ := ab_grd h
  obtain rfl := Option.some.inj h
  exact ab_zret C dX9_isWeight_15 hg1
set_option maxRecDepth 100000 in
set_option maxHeartbeats 4000000 in
theorem gX9_isWeight_b14 {R : Int32} (C : ab_C yC p s m args meth c D cA ad cX9_isWeight 1 RX9 (some .boolean)) {σ : ab_S} (h : fX9_isWeight_b14 = some R) : ab_G yC p l e s m args below meth c D cA ad 1 0 (some (.inl R)) σ 14 [none] [] σ := by
  refine ab_iconst C dX9_isWeight_14 (v := 0) rfl ?_
  refine ab_weak (lv' := [none]) ⟨.inl rfl, trivial⟩ ?_
  exact gX9_isWeight_b15 C _ h
set_option maxRecDepth 100000 in
set_option maxHeartbeats 4000000 in
theorem tX9_isWeight (l : Launch) (x0 : Int32) (σ : ab_S) {R : Int32} (h : fX9_isWeight x0 = some R) : ab_M l yC yX9_isWeight cX9_isWeight 1 (some .boolean) 0 [.inl x0] σ (some (.inl R)) σ := by
  refine ab_M_intro ndC (by decide) (Nat.le_of_ble_eq_true rfl) ?_
  intro p e s m args below meth c D cA ad C
  have C : ab_C yC p s m args meth c D cA ad cX9_isWeight 1 RX9 (some .boolean) := C
  refine ab_weak (lv' := [some (.inl x0)]) ⟨.inr rfl, trivial⟩ ?_
  refine ab_iload_n C dX9_isWeight_0 rfl ?_
  refine ab_if_lt C (tgt := 14) dX9_isWeight_1 (by decide) (fun hc1 => ?_) (fun hc1 => ?_)
  · replace h := ab_pos hc1 h
    refine ab_weak (lv' := [none]) ⟨.inl rfl, trivial⟩ ?_
    exact gX9_isWeight_b14 C h
  · replace h := ab_neg hc1 h
    refine ab_iload_n C dX9_isWeight_4 rfl ?_
    refine ab_bipush C dX9_isWeight_5 (v := 12) rfl ?_
    refine ab_icmp_gt C (tgt := 14) dX9_isWeight_7 (by decide) (fun hc2 => ?_) (fun hc2 => ?_)
    · replace h := ab_pos hc2 h
      refine ab_weak (lv' := [none]) ⟨.inl rfl, trivial⟩ ?_
      exact gX9_isWeight_b14 C h
    · replace h := ab_neg hc2 h
      refine ab_iconst C dX9_isWeight_10 (v := 1) rfl ?_
      refine ab_goto C (tgt := 15) dX9_isWeight_11 (by decide) ?_
      refine ab_weak (lv' := [none]) ⟨.inl rfl, trivial⟩ ?_
      exact gX9_isWeight_b15 C _ h
end
def fX9_threesOn (x1 : Int32) (σ : ab_S) : Option Int32 := (fX6_lengthOf x1 σ).bind fun q1 => some ((q1 + 2) / 3)
section
variable {p : Program} {l : Launch} {e : Env} {s : State} {m : MethodId} {args : Array Value} {below : List Frame} {meth : Method} {c : Code} {D : va_G} {cA : Nat → ClassId} {ad : Nat → Nat → Nat}
set_option maxRecDepth 100000 in
set_option maxHeartbeats 4000000 in
theorem tX9_threesOn (l : Launch) (x1 : Int32) (σ : ab_S) {R : Int32} (h : fX9_threesOn x1 σ = some R) : ab_M l yC yX9_threesOn cX9_threesOn 2 (some .int) 3 [.inr (.inr (0, 0)), .inl x1] σ (some (.inl R)) σ := by
  refine ab_M_intro ndC (by decide) (Nat.le_of_ble_eq_true rfl) ?_
  intro p e s m args below meth c D cA ad C
  have C : ab_C yC p s m args meth c D cA ad cX9_threesOn 2 RX9 (some .int) := C
  refine ab_weak (lv' := [some (.inr (.inr (0, 0))), some (.inl x1)]) ⟨.inr rfl, ⟨.inr rfl, trivial⟩⟩ ?_
  refine ab_aload_n C dX9_threesOn_0 rfl ?_
  refine ab_getR C dX9_threesOn_1 flX9_72 rkC_0 rfl mmC_0 ?_
  refine ab_iload_n C dX9_threesOn_4 rfl ?_
  obtain ⟨q1, hq1, h⟩ := ab_bind h
  refine ab_inv1 C dX9_threesOn_5 mlX9_271 yvX6_lengthOf rkC_39 ⟨_, _, rfl⟩ mmC_39 (tX6_lengthOf l _ _ hq1) (Nat.le_of_ble_eq_true rfl) (Nat.le_of_ble_eq_true rfl) rfl (Nat.le_of_ble_eq_true rfl) ?_
  refine ab_iconst C dX9_threesOn_8 (v := 2) rfl ?_
  refine ab_iadd C dX9_threesOn_9  ?_
  refine ab_iconst C dX9_threesOn_10 (v := 3) rfl ?_
  refine ab_idiv C dX9_threesOn_11 (by decide) ?_
  obtain rfl := Option.some.inj h
  exact ab_iret C dX9_threesOn_12
end
def fX9_judge_b18 (σ : ab_S) : Option (Int32 × ab_S) := some ((-1), σ)
def fX9_judge_b57_o (kk57 : Int32 → Int32 → Int32 → Int32 → ab_S → Option (Int32 × ab_S)) (v1 : Int32) (v2 : Int32) (v3 : Int32) (v4 : Int32) (σ : ab_S) : Option (Int32 × ab_S) := (if v3 ≤ v4 then some ((-2), σ) else (fX9_isBySome v1 v4 v2 σ).bind fun q2 => (if q2.1 = 0 then some (v4, q2.2) else kk57 v1 v2 v3 (v4 + 1) q2.2))
def fX9_judge_b57 : Nat → Int32 → Int32 → Int32 → Int32 → ab_S → Option (Int32 × ab_S)
  | 0 => fun _ _ _ _ _ => none
  | n + 1 => fX9_judge_b57_o  (fX9_judge_b57 n)
def fX9_judge (x1 : Int32) (x2 : Int32) (σ : ab_S) : Option (Int32 × ab_S) := (fX6_has x1).bind fun q1 => (if q1 = 0 then fX9_judge_b18 σ else (fX9_areHosts x2).bind fun q3 => (if q3 = 0 then fX9_judge_b18 σ else (fX6_isEmpty x1 σ).bind fun q5 => (if q5 = 0 then (fX6_isBytes x1 σ).bind fun q7 => (if q7 = 0 then some ((-12), σ) else (fX9_threesOn x1 σ).bind fun q9 => fX9_judge_b57 ab_N x1 x2 q9 0 σ) else some ((-11), σ))))
section
variable {p : Program} {l : Launch} {e : Env} {s : State} {m : MethodId} {args : Array Value} {below : List Frame} {meth : Method} {c : Code} {D : va_G} {cA : Nat → ClassId} {ad : Nat → Nat → Nat}
set_option maxRecDepth 100000 in
set_option maxHeartbeats 4000000 in
theorem gX9_judge_b18 {R : (Int32 × ab_S)} (C : ab_C yC p s m args meth c D cA ad cX9_judge 5 RX9 (some .int)) (σ : ab_S) (h : fX9_judge_b18 σ = some R) : ab_G yC p l e s m args below meth c D cA ad 5 7 (some (.inl R.1)) R.2 18 [none, none, none, none, none] [] σ := by
  refine ab_iconst C dX9_judge_18 (v := (-1)) rfl ?_
  obtain rfl := Option.some.inj h
  exact ab_iret C dX9_judge_19
set_option maxRecDepth 100000 in
set_option maxHeartbeats 4000000 in
theorem gX9_judge_b57_o {R : (Int32 × ab_S)} (C : ab_C yC p s m args meth c D cA ad cX9_judge 5 RX9 (some .int)) {kk57 : Int32 → Int32 → Int32 → Int32 → ab_S → Option (Int32 × ab_S)} (hk57 : ∀ (v1 : Int32) (v2 : Int32) (v3 : Int32) (v4 : Int32) (σ : ab_S), kk57 v1 v2 v3 v4 σ = some R → ab_G yC p l e s m args below meth c D cA ad 5 7 (some (.inl R.1)) R.2 57 [some (.inr (.inr (0, 0))), some (.inl v1), some (.inl v2), some (.inl v3), some (.inl v4)] [] σ) (v1 : Int32) (v2 : Int32) (v3 : Int32) (v4 : Int32) (σ : ab_S) (h : fX9_judge_b57_o kk57 v1 v2 v3 v4 σ = some R) : ab_G yC p l e s m args below meth c D cA ad 5 7 (some (.inl R.1)) R.2 57 [some (.inr (.inr (0, 0))), some (.inl v1), some (.inl v2), some (.inl v3), some (.inl v4)] [] σ := by
  refine ab_iload C dX9_judge_57 rfl ?_
  refine ab_iload_n C dX9_judge_59 rfl ?_
  refine ab_icmp_ge C (tgt := 83) dX9_judge_60 (by decide) (fun hc1 => ?_) (fun hc1 => ?_)
  · replace h := ab_pos hc1 h
    refine ab_bipush C dX9_judge_83 (v := (-2)) rfl ?_
    obtain rfl := Option.some.inj h
    exact ab_iret C dX9_judge_85
  · replace h := ab_neg hc1 h
    refine ab_aload_n C dX9_judge_63 rfl ?_
    refine ab_iload_n C dX9_judge_64 rfl ?_
    refine ab_iload C dX9_judge_65 rfl ?_
    refine ab_iload_n C dX9_judge_67 rfl ?_
    obtain ⟨q2, hq2, h⟩ := ab_bind h
    refine ab_inv1 C dX9_judge_68 mlX9_265 yvX9_isBySome rkC_0 ⟨_, _, rfl⟩ mmC_0 (tX9_isBySome l _ _ _ _ hq2) (Nat.le_of_ble_eq_true rfl) (Nat.le_of_ble_eq_true rfl) rfl (Nat.le_of_ble_eq_true rfl) ?_
    refine ab_if_ne C (tgt := 77) dX9_judge_71 (by decide) (fun hc3 => ?_) (fun hc3 => ?_)
    · replace h := ab_neg hc3 h
      refine ab_iinc C dX9_judge_77 rfl (v := 1) rfl (Nat.le_of_ble_eq_true rfl) ?_
      refine ab_goto C (tgt := 57) dX9_judge_80 (by decide) ?_
      refine ab_weak (lv' := [some (.inr (.inr (0, 0))), some (.inl v1), some (.inl v2), some (.inl v3), some (.inl (v4 + 1))]) ⟨.inr rfl, ⟨.inr rfl, ⟨.inr rfl, ⟨.inr rfl, ⟨.inr rfl, trivial⟩⟩⟩⟩⟩ ?_
      exact hk57 _ _ _ _ _ h
    · replace h := ab_pos hc3 h
      refine ab_iload C dX9_judge_74 rfl ?_
      obtain rfl := Option.some.inj h
      exact ab_iret C dX9_judge_76
theorem gX9_judge_b57 {R : (Int32 × ab_S)} (C : ab_C yC p s m args meth c D cA ad cX9_judge 5 RX9 (some .int)) : ∀ (j : Nat) (v1 : Int32) (v2 : Int32) (v3 : Int32) (v4 : Int32) (σ : ab_S), fX9_judge_b57 j v1 v2 v3 v4 σ = some R → ab_G yC p l e s m args below meth c D cA ad 5 7 (some (.inl R.1)) R.2 57 [some (.inr (.inr (0, 0))), some (.inl v1), some (.inl v2), some (.inl v3), some (.inl v4)] [] σ := by
  intro j
  induction j with
  | zero => intro v1 v2 v3 v4 σ  h; cases h
  | succ j ih => intro v1 v2 v3 v4 σ  h; exact gX9_judge_b57_o C ih _ _ _ _ _ h
set_option maxRecDepth 100000 in
set_option maxHeartbeats 4000000 in
theorem tX9_judge (l : Launch) (x1 : Int32) (x2 : Int32) (σ : ab_S) {R : (Int32 × ab_S)} (h : fX9_judge x1 x2 σ = some R) : ab_M l yC yX9_judge cX9_judge 5 (some .int) 7 [.inr (.inr (0, 0)), .inl x1, .inl x2] σ (some (.inl R.1)) R.2 := by
  refine ab_M_intro ndC (by decide) (Nat.le_of_ble_eq_true rfl) ?_
  intro p e s m args below meth c D cA ad C
  have C : ab_C yC p s m args meth c D cA ad cX9_judge 5 RX9 (some .int) := C
  refine ab_weak (lv' := [some (.inr (.inr (0, 0))), some (.inl x1), some (.inl x2), none, none]) ⟨.inr rfl, ⟨.inr rfl, ⟨.inr rfl, ⟨.inl rfl, ⟨.inl rfl, trivial⟩⟩⟩⟩⟩ ?_
  refine ab_aload_n C dX9_judge_0 rfl ?_
  refine ab_getR C dX9_judge_1 flX9_72 rkC_0 rfl mmC_0 ?_
  refine ab_iload_n C dX9_judge_4 rfl ?_
  obtain ⟨q1, hq1, h⟩ := ab_bind h
  refine ab_inv1 C dX9_judge_5 mlX9_93 yvX6_has rkC_39 ⟨_, _, rfl⟩ mmC_39 (tX6_has l _ _ hq1) (Nat.le_of_ble_eq_true rfl) (Nat.le_of_ble_eq_true rfl) rfl (Nat.le_of_ble_eq_true rfl) ?_
  refine ab_if_eq C (tgt := 18) dX9_judge_8 (by decide) (fun hc2 => ?_) (fun hc2 => ?_)
  · replace h := ab_pos hc2 h
    refine ab_weak (lv' := [none, none, none, none, none]) ⟨.inl rfl, ⟨.inl rfl, ⟨.inl rfl, ⟨.inl rfl, ⟨.inl rfl, trivial⟩⟩⟩⟩⟩ ?_
    exact gX9_judge_b18 C _ h
  · replace h := ab_neg hc2 h
    refine ab_iload_n C dX9_judge_11 rfl ?_
    obtain ⟨q3, hq3, h⟩ := ab_bind h
    refine ab_invS1 C dX9_judge_12 mlX9_243 ysX9_areHosts (tX9_areHosts l _ _ hq3) (Nat.le_of_ble_eq_true rfl) (Nat.le_of_ble_eq_true rfl) rfl (Nat.le_of_ble_eq_true rfl) ?_
    refine ab_if_ne C (tgt := 20) dX9_judge_15 (by decide) (fun hc4 => ?_) (fun hc4 => ?_)
    · replace h := ab_neg hc4 h
      refine ab_aload_n C dX9_judge_20 rfl ?_
      refine ab_getR C dX9_judge_21 flX9_72 rkC_0 rfl mmC_0 ?_
      refine ab_iload_n C dX9_judge_24 rfl ?_
      obtain ⟨q5, hq5, h⟩ := ab_bind h
      refine ab_inv1 C dX9_judge_25 mlX9_97 yvX6_isEmpty rkC_39 ⟨_, _, rfl⟩ mmC_39 (tX6_isEmpty l _ _ hq5) (Nat.le_of_ble_eq_true rfl) (Nat.le_of_ble_eq_true rfl) rfl (Nat.le_of_ble_eq_true rfl) ?_
      refine ab_if_eq C (tgt := 34) dX9_judge_28 (by decide) (fun hc6 => ?_) (fun hc6 => ?_)
      · replace h := ab_pos hc6 h
        refine ab_aload_n C dX9_judge_34 rfl ?_
        refine ab_getR C dX9_judge_35 flX9_72 rkC_0 rfl mmC_0 ?_
        refine ab_iload_n C dX9_judge_38 rfl ?_
        obtain ⟨q7, hq7, h⟩ := ab_bind h
        refine ab_inv1 C dX9_judge_39 mlX9_100 yvX6_isBytes rkC_39 ⟨_, _, rfl⟩ mmC_39 (tX6_isBytes l _ _ hq7) (Nat.le_of_ble_eq_true rfl) (Nat.le_of_ble_eq_true rfl) rfl (Nat.le_of_ble_eq_true rfl) ?_
        refine ab_if_ne C (tgt := 48) dX9_judge_42 (by decide) (fun hc8 => ?_) (fun hc8 => ?_)
        · replace h := ab_neg hc8 h
          refine ab_aload_n C dX9_judge_48 rfl ?_
          refine ab_iload_n C dX9_judge_49 rfl ?_
          obtain ⟨q9, hq9, h⟩ := ab_bind h
          refine ab_inv1 C dX9_judge_50 mlX9_259 yvX9_threesOn rkC_0 ⟨_, _, rfl⟩ mmC_0 (tX9_threesOn l _ _ hq9) (Nat.le_of_ble_eq_true rfl) (Nat.le_of_ble_eq_true rfl) rfl (Nat.le_of_ble_eq_true rfl) ?_
          refine ab_istore_n C dX9_judge_53 (Nat.le_of_ble_eq_true rfl) ?_
          refine ab_iconst C dX9_judge_54 (v := 0) rfl ?_
          refine ab_istore C dX9_judge_55 (Nat.le_of_ble_eq_true rfl) ?_
          refine ab_weak (lv' := [some (.inr (.inr (0, 0))), some (.inl x1), some (.inl x2), some (.inl q9), some (.inl 0)]) ⟨.inr rfl, ⟨.inr rfl, ⟨.inr rfl, ⟨.inr rfl, ⟨.inr rfl, trivial⟩⟩⟩⟩⟩ ?_
          exact gX9_judge_b57 C ab_N _ _ _ _ _ h
        · replace h := ab_pos hc8 h
          refine ab_bipush C dX9_judge_45 (v := (-12)) rfl ?_
          obtain rfl := Option.some.inj h
          exact ab_iret C dX9_judge_47
      · replace h := ab_neg hc6 h
        refine ab_bipush C dX9_judge_31 (v := (-11)) rfl ?_
        obtain rfl := Option.some.inj h
        exact ab_iret C dX9_judge_33
    · replace h := ab_pos hc4 h
      refine ab_weak (lv' := [none, none, none, none, none]) ⟨.inl rfl, ⟨.inl rfl, ⟨.inl rfl, ⟨.inl rfl, ⟨.inl rfl, trivial⟩⟩⟩⟩⟩ ?_
      exact gX9_judge_b18 C _ h
end
def fX9_keep_b56 (σ : ab_S) : Option (Int32 × ab_S) := some (1, σ)
def fX9_keep_b31 (v1 : Int32) (v2 : Int32) (σ : ab_S) : Option (Int32 × ab_S) := (if v2 = ((-1)) then (fX6_holdNothing v1 σ).bind fun q3 => fX9_keep_b56 q3 else (fX6_holdBody v1 v2 σ).bind fun q2 => fX9_keep_b56 q2)
def fX9_keep (x1 : Int32) (x2 : Int32) (σ : ab_S) : Option (Int32 × ab_S) := (fX6_has x1).bind fun q1 => (if q1 = 0 then some ((-1), σ) else (if x2 = ((-1)) then fX9_keep_b31 x1 x2 σ else (fX0_has x2 σ).bind fun q4 => (if q4 = 0 then some ((-1), σ) else fX9_keep_b31 x1 x2 σ)))
section
variable {p : Program} {l : Launch} {e : Env} {s : State} {m : MethodId} {args : Array Value} {below : List Frame} {meth : Method} {c : Code} {D : va_G} {cA : Nat → ClassId} {ad : Nat → Nat → Nat}
set_option maxRecDepth 100000 in
set_option maxHeartbeats 4000000 in
theorem gX9_keep_b56 {R : (Int32 × ab_S)} (C : ab_C yC p s m args meth c D cA ad cX9_keep 3 RX9 (some .int)) (σ : ab_S) (h : fX9_keep_b56 σ = some R) : ab_G yC p l e s m args below meth c D cA ad 3 2 (some (.inl R.1)) R.2 56 [none, none, none] [] σ := by
  refine ab_iconst C dX9_keep_56 (v := 1) rfl ?_
  obtain rfl := Option.some.inj h
  exact ab_iret C dX9_keep_57
set_option maxRecDepth 100000 in
set_option maxHeartbeats 4000000 in
theorem gX9_keep_b31 {R : (Int32 × ab_S)} (C : ab_C yC p s m args meth c D cA ad cX9_keep 3 RX9 (some .int)) (v1 : Int32) (v2 : Int32) (σ : ab_S) (h : fX9_keep_b31 v1 v2 σ = some R) : ab_G yC p l e s m args below meth c D cA ad 3 2 (some (.inl R.1)) R.2 31 [some (.inr (.inr (0, 0))), some (.inl v1), some (.inl v2)] [] σ := by
  refine ab_iload_n C dX9_keep_31 rfl ?_
  refine ab_iconst C dX9_keep_32 (v := (-1)) rfl ?_
  refine ab_icmp_ne C (tgt := 47) dX9_keep_33 (by decide) (fun hc1 => ?_) (fun hc1 => ?_)
  · replace h := ab_neg hc1 h
    refine ab_aload_n C dX9_keep_47 rfl ?_
    refine ab_getR C dX9_keep_48 flX9_72 rkC_0 rfl mmC_0 ?_
    refine ab_iload_n C dX9_keep_51 rfl ?_
    refine ab_iload_n C dX9_keep_52 rfl ?_
    obtain ⟨q2, hq2, h⟩ := ab_bind h
    refine ab_inv0 C dX9_keep_53 mlX9_331 yvX6_holdBody rkC_39 ⟨_, _, rfl⟩ mmC_39 (tX6_holdBody l _ _ _ hq2) (Nat.le_of_ble_eq_true rfl) (Nat.le_of_ble_eq_true rfl) rfl (Nat.le_of_ble_eq_true rfl) ?_
    refine ab_weak (lv' := [none, none, none]) ⟨.inl rfl, ⟨.inl rfl, ⟨.inl rfl, trivial⟩⟩⟩ ?_
    exact gX9_keep_b56 C _ h
  · replace h := ab_pos hc1 h
    refine ab_aload_n C dX9_keep_36 rfl ?_
    refine ab_getR C dX9_keep_37 flX9_72 rkC_0 rfl mmC_0 ?_
    refine ab_iload_n C dX9_keep_40 rfl ?_
    obtain ⟨q3, hq3, h⟩ := ab_bind h
    refine ab_inv0 C dX9_keep_41 mlX9_328 yvX6_holdNothing rkC_39 ⟨_, _, rfl⟩ mmC_39 (tX6_holdNothing l _ _ hq3) (Nat.le_of_ble_eq_true rfl) (Nat.le_of_ble_eq_true rfl) rfl (Nat.le_of_ble_eq_true rfl) ?_
    refine ab_goto C (tgt := 56) dX9_keep_44 (by decide) ?_
    refine ab_weak (lv' := [none, none, none]) ⟨.inl rfl, ⟨.inl rfl, ⟨.inl rfl, trivial⟩⟩⟩ ?_
    exact gX9_keep_b56 C _ h
set_option maxRecDepth 100000 in
set_option maxHeartbeats 4000000 in
theorem tX9_keep (l : Launch) (x1 : Int32) (x2 : Int32) (σ : ab_S) {R : (Int32 × ab_S)} (h : fX9_keep x1 x2 σ = some R) : ab_M l yC yX9_keep cX9_keep 3 (some .int) 2 [.inr (.inr (0, 0)), .inl x1, .inl x2] σ (some (.inl R.1)) R.2 := by
  refine ab_M_intro ndC (by decide) (Nat.le_of_ble_eq_true rfl) ?_
  intro p e s m args below meth c D cA ad C
  have C : ab_C yC p s m args meth c D cA ad cX9_keep 3 RX9 (some .int) := C
  refine ab_weak (lv' := [some (.inr (.inr (0, 0))), some (.inl x1), some (.inl x2)]) ⟨.inr rfl, ⟨.inr rfl, ⟨.inr rfl, trivial⟩⟩⟩ ?_
  refine ab_aload_n C dX9_keep_0 rfl ?_
  refine ab_getR C dX9_keep_1 flX9_72 rkC_0 rfl mmC_0 ?_
  refine ab_iload_n C dX9_keep_4 rfl ?_
  obtain ⟨q1, hq1, h⟩ := ab_bind h
  refine ab_inv1 C dX9_keep_5 mlX9_93 yvX6_has rkC_39 ⟨_, _, rfl⟩ mmC_39 (tX6_has l _ _ hq1) (Nat.le_of_ble_eq_true rfl) (Nat.le_of_ble_eq_true rfl) rfl (Nat.le_of_ble_eq_true rfl) ?_
  refine ab_if_ne C (tgt := 13) dX9_keep_8 (by decide) (fun hc2 => ?_) (fun hc2 => ?_)
  · replace h := ab_neg hc2 h
    refine ab_iload_n C dX9_keep_13 rfl ?_
    refine ab_iconst C dX9_keep_14 (v := (-1)) rfl ?_
    refine ab_icmp_eq C (tgt := 31) dX9_keep_15 (by decide) (fun hc3 => ?_) (fun hc3 => ?_)
    · replace h := ab_pos hc3 h
      refine ab_weak (lv' := [some (.inr (.inr (0, 0))), some (.inl x1), some (.inl x2)]) ⟨.inr rfl, ⟨.inr rfl, ⟨.inr rfl, trivial⟩⟩⟩ ?_
      exact gX9_keep_b31 C _ _ _ h
    · replace h := ab_neg hc3 h
      refine ab_aload_n C dX9_keep_18 rfl ?_
      refine ab_getR C dX9_keep_19 flX9_65 rkC_0 rfl mmC_0 ?_
      refine ab_iload_n C dX9_keep_22 rfl ?_
      obtain ⟨q4, hq4, h⟩ := ab_bind h
      refine ab_inv1 C dX9_keep_23 mlX9_327 yvX0_has rkC_36 ⟨_, _, rfl⟩ mmC_36 (tX0_has l _ _ hq4) (Nat.le_of_ble_eq_true rfl) (Nat.le_of_ble_eq_true rfl) rfl (Nat.le_of_ble_eq_true rfl) ?_
      refine ab_if_ne C (tgt := 31) dX9_keep_26 (by decide) (fun hc5 => ?_) (fun hc5 => ?_)
      · replace h := ab_neg hc5 h
        refine ab_weak (lv' := [some (.inr (.inr (0, 0))), some (.inl x1), some (.inl x2)]) ⟨.inr rfl, ⟨.inr rfl, ⟨.inr rfl, trivial⟩⟩⟩ ?_
        exact gX9_keep_b31 C _ _ _ h
      · replace h := ab_pos hc5 h
        refine ab_iconst C dX9_keep_29 (v := (-1)) rfl ?_
        obtain rfl := Option.some.inj h
        exact ab_iret C dX9_keep_30
  · replace h := ab_pos hc2 h
    refine ab_iconst C dX9_keep_11 (v := (-1)) rfl ?_
    obtain rfl := Option.some.inj h
    exact ab_iret C dX9_keep_12
end
def fX9_law_b9 (σ : ab_S) : Option (Int32 × ab_S) := some ((-1), σ)
def fX9_law_b54 (t0 : Int32) (σ : ab_S) : Option (Int32 × ab_S) := some (t0, σ)
def fX9_law_b35 (v2 : Int32) (σ : ab_S) : Option (Int32 × ab_S) := (fX8_clear σ).bind fun q1 => (if 0 ≤ v2 then fX9_law_b54 (((-100)) - v2) q1 else fX9_law_b54 1 q1)
def fX9_law (x1 : Int32) (σ : ab_S) : Option (Int32 × ab_S) := (if x1 < 0 then fX9_law_b9 σ else (if x1 < 4 then (fX8_read σ).bind fun q3 => (if 0 ≤ q3.1 then fX9_law_b35 q3.1 q3.2 else (fX1_takeLaw x1 q3.2).bind fun q5 => fX9_law_b35 q3.1 q5) else fX9_law_b9 σ))
section
variable {p : Program} {l : Launch} {e : Env} {s : State} {m : MethodId} {args : Array Value} {below : List Frame} {meth : Method} {c : Code} {D : va_G} {cA : Nat → ClassId} {ad : Nat → Nat → Nat}
set_option maxRecDepth 100000 in
set_option maxHeartbeats 4000000 in
theorem gX9_law_b9 {R : (Int32 × ab_S)} (C : ab_C yC p s m args meth c D cA ad cX9_law 3 RX9 (some .int)) (σ : ab_S) (h : fX9_law_b9 σ = some R) : ab_G yC p l e s m args below meth c D cA ad 3 69 (some (.inl R.1)) R.2 9 [none, none, none] [] σ := by
  refine ab_iconst C dX9_law_9 (v := (-1)) rfl ?_
  obtain rfl := Option.some.inj h
  exact ab_iret C dX9_law_10
set_option maxRecDepth 100000 in
set_option maxHeartbeats 4000000 in
theorem gX9_law_b54 {R : (Int32 × ab_S)} (C : ab_C yC p s m args meth c D cA ad cX9_law 3 RX9 (some .int)) (t0 : Int32) (σ : ab_S) (h : fX9_law_b54 t0 σ = some R) : ab_G yC p l e s m args below meth c D cA ad 3 69 (some (.inl R.1)) R.2 54 [none, none, none] [.inl t0] σ := by
  obtain rfl := Option.some.inj h
  exact ab_iret C dX9_law_54
set_option maxRecDepth 100000 in
set_option maxHeartbeats 4000000 in
theorem gX9_law_b35 {R : (Int32 × ab_S)} (C : ab_C yC p s m args meth c D cA ad cX9_law 3 RX9 (some .int)) (v2 : Int32) (σ : ab_S) (h : fX9_law_b35 v2 σ = some R) : ab_G yC p l e s m args below meth c D cA ad 3 69 (some (.inl R.1)) R.2 35 [some (.inr (.inr (0, 0))), none, some (.inl v2)] [] σ := by
  refine ab_aload_n C dX9_law_35 rfl ?_
  refine ab_getR C dX9_law_36 flX9_40 rkC_0 rfl mmC_0 ?_
  obtain ⟨q1, hq1, h⟩ := ab_bind h
  refine ab_inv0 C dX9_law_39 mlX9_180 yvX8_clear rkC_18 ⟨_, _, rfl⟩ mmC_18 (tX8_clear l _ hq1) (Nat.le_of_ble_eq_true rfl) (Nat.le_of_ble_eq_true rfl) rfl (Nat.le_of_ble_eq_true rfl) ?_
  refine ab_iload_n C dX9_law_42 rfl ?_
  refine ab_if_ge C (tgt := 50) dX9_law_43 (by decide) (fun hc2 => ?_) (fun hc2 => ?_)
  · replace h := ab_pos hc2 h
    refine ab_bipush C dX9_law_50 (v := (-100)) rfl ?_
    refine ab_iload_n C dX9_law_52 rfl ?_
    refine ab_isub C dX9_law_53  ?_
    refine ab_weak (lv' := [none, none, none]) ⟨.inl rfl, ⟨.inl rfl, ⟨.inl rfl, trivial⟩⟩⟩ ?_
    exact gX9_law_b54 C _ _ h
  · replace h := ab_neg hc2 h
    refine ab_iconst C dX9_law_46 (v := 1) rfl ?_
    refine ab_goto C (tgt := 54) dX9_law_47 (by decide) ?_
    refine ab_weak (lv' := [none, none, none]) ⟨.inl rfl, ⟨.inl rfl, ⟨.inl rfl, trivial⟩⟩⟩ ?_
    exact gX9_law_b54 C _ _ h
set_option maxRecDepth 100000 in
set_option maxHeartbeats 4000000 in
theorem tX9_law (l : Launch) (x1 : Int32) (σ : ab_S) {R : (Int32 × ab_S)} (h : fX9_law x1 σ = some R) : ab_M l yC yX9_law cX9_law 3 (some .int) 69 [.inr (.inr (0, 0)), .inl x1] σ (some (.inl R.1)) R.2 := by
  refine ab_M_intro ndC (by decide) (Nat.le_of_ble_eq_true rfl) ?_
  intro p e s m args below meth c D cA ad C
  have C : ab_C yC p s m args meth c D cA ad cX9_law 3 RX9 (some .int) := C
  refine ab_weak (lv' := [some (.inr (.inr (0, 0))), some (.inl x1), none]) ⟨.inr rfl, ⟨.inr rfl, ⟨.inl rfl, trivial⟩⟩⟩ ?_
  refine ab_iload_n C dX9_law_0 rfl ?_
  refine ab_if_lt C (tgt := 9) dX9_law_1 (by decide) (fun hc1 => ?_) (fun hc1 => ?_)
  · replace h := ab_pos hc1 h
    refine ab_weak (lv' := [none, none, none]) ⟨.inl rfl, ⟨.inl rfl, ⟨.inl rfl, trivial⟩⟩⟩ ?_
    exact gX9_law_b9 C _ h
  · replace h := ab_neg hc1 h
    refine ab_iload_n C dX9_law_4 rfl ?_
    refine ab_iconst C dX9_law_5 (v := 4) rfl ?_
    refine ab_icmp_lt C (tgt := 11) dX9_law_6 (by decide) (fun hc2 => ?_) (fun hc2 => ?_)
    · replace h := ab_pos hc2 h
      refine ab_aload_n C dX9_law_11 rfl ?_
      refine ab_getR C dX9_law_12 flX9_40 rkC_0 rfl mmC_0 ?_
      obtain ⟨q3, hq3, h⟩ := ab_bind h
      refine ab_inv1 C dX9_law_15 mlX9_172 yvX8_read rkC_18 ⟨_, _, rfl⟩ mmC_18 (tX8_read l _ hq3) (Nat.le_of_ble_eq_true rfl) (Nat.le_of_ble_eq_true rfl) rfl (Nat.le_of_ble_eq_true rfl) ?_
      refine ab_istore_n C dX9_law_18 (Nat.le_of_ble_eq_true rfl) ?_
      refine ab_iload_n C dX9_law_19 rfl ?_
      refine ab_if_ge C (tgt := 35) dX9_law_20 (by decide) (fun hc4 => ?_) (fun hc4 => ?_)
      · replace h := ab_pos hc4 h
        refine ab_weak (lv' := [some (.inr (.inr (0, 0))), none, some (.inl q3.1)]) ⟨.inr rfl, ⟨.inl rfl, ⟨.inr rfl, trivial⟩⟩⟩ ?_
        exact gX9_law_b35 C _ _ h
      · replace h := ab_neg hc4 h
        refine ab_aload_n C dX9_law_23 rfl ?_
        refine ab_getR C dX9_law_24 flX9_49 rkC_0 rfl mmC_0 ?_
        refine ab_iload_n C dX9_law_27 rfl ?_
        refine ab_aload_n C dX9_law_28 rfl ?_
        refine ab_getR C dX9_law_29 flX9_40 rkC_0 rfl mmC_0 ?_
        obtain ⟨q5, hq5, h⟩ := ab_bind h
        refine ab_inv0 C dX9_law_32 mlX9_176 yvX1_takeLaw rkC_21 ⟨_, _, rfl⟩ mmC_21 (tX1_takeLaw l _ _ hq5) (Nat.le_of_ble_eq_true rfl) (Nat.le_of_ble_eq_true rfl) rfl (Nat.le_of_ble_eq_true rfl) ?_
        refine ab_weak (lv' := [some (.inr (.inr (0, 0))), none, some (.inl q3.1)]) ⟨.inr rfl, ⟨.inl rfl, ⟨.inr rfl, trivial⟩⟩⟩ ?_
        exact gX9_law_b35 C _ _ h
    · replace h := ab_neg hc2 h
      refine ab_weak (lv' := [none, none, none]) ⟨.inl rfl, ⟨.inl rfl, ⟨.inl rfl, trivial⟩⟩⟩ ?_
      exact gX9_law_b9 C _ h
end
def fX9_led (x1 : Int32) (σ : ab_S) : Option Int32 := (if x1 = 0 then (fX4_endsOf 1 σ).bind fun q2 => some q2 else (if x1 = 1 then (fX4_endsOf 2 σ).bind fun q4 => some q4 else (if x1 = 2 then (fX4_endsOf 0 σ).bind fun q6 => some q6 else some ((-1)))))
section
variable {p : Program} {l : Launch} {e : Env} {s : State} {m : MethodId} {args : Array Value} {below : List Frame} {meth : Method} {c : Code} {D : va_G} {cA : Nat → ClassId} {ad : Nat → Nat → Nat}
set_option maxRecDepth 100000 in
set_option maxHeartbeats 4000000 in
theorem tX9_led (l : Launch) (x1 : Int32) (σ : ab_S) {R : Int32} (h : fX9_led x1 σ = some R) : ab_M l yC yX9_led cX9_led 2 (some .int) 1 [.inr (.inr (0, 0)), .inl x1] σ (some (.inl R)) σ := by
  refine ab_M_intro ndC (by decide) (Nat.le_of_ble_eq_true rfl) ?_
  intro p e s m args below meth c D cA ad C
  have C : ab_C yC p s m args meth c D cA ad cX9_led 2 RX9 (some .int) := C
  refine ab_weak (lv' := [some (.inr (.inr (0, 0))), some (.inl x1)]) ⟨.inr rfl, ⟨.inr rfl, trivial⟩⟩ ?_
  refine ab_iload_n C dX9_led_0 rfl ?_
  by_cases hc1 : x1 = 0
  · replace h := ab_pos hc1 h
    refine ab_tswIn C (tgt := 28) dX9_led_1.1 0 (by rw [hc1]; decide) (by decide) (by decide) rfl (by decide) ?_
    refine ab_aload_n C dX9_led_28 rfl ?_
    refine ab_getR C dX9_led_29 flX9_19 rkC_0 rfl mmC_0 ?_
    refine ab_iconst C dX9_led_32 (v := 1) rfl ?_
    obtain ⟨q2, hq2, h⟩ := ab_bind h
    refine ab_inv1 C dX9_led_33 mlX9_301 yvX4_endsOf rkC_5 ⟨_, _, rfl⟩ mmC_5 (tX4_endsOf l _ _ hq2) (Nat.le_of_ble_eq_true rfl) (Nat.le_of_ble_eq_true rfl) rfl (Nat.le_of_ble_eq_true rfl) ?_
    obtain rfl := Option.some.inj h
    exact ab_iret C dX9_led_36
  · replace h := ab_neg hc1 h
    by_cases hc3 : x1 = 1
    · replace h := ab_pos hc3 h
      refine ab_tswIn C (tgt := 37) dX9_led_1.1 1 (by rw [hc3]; decide) (by decide) (by decide) rfl (by decide) ?_
      refine ab_aload_n C dX9_led_37 rfl ?_
      refine ab_getR C dX9_led_38 flX9_19 rkC_0 rfl mmC_0 ?_
      refine ab_iconst C dX9_led_41 (v := 2) rfl ?_
      obtain ⟨q4, hq4, h⟩ := ab_bind h
      refine ab_inv1 C dX9_led_42 mlX9_301 yvX4_endsOf rkC_5 ⟨_, _, rfl⟩ mmC_5 (tX4_endsOf l _ _ hq4) (Nat.le_of_ble_eq_true rfl) (Nat.le_of_ble_eq_true rfl) rfl (Nat.le_of_ble_eq_true rfl) ?_
      obtain rfl := Option.some.inj h
      exact ab_iret C dX9_led_45
    · replace h := ab_neg hc3 h
      by_cases hc5 : x1 = 2
      · replace h := ab_pos hc5 h
        refine ab_tswIn C (tgt := 46) dX9_led_1.1 2 (by rw [hc5]; decide) (by decide) (by decide) rfl (by decide) ?_
        refine ab_aload_n C dX9_led_46 rfl ?_
        refine ab_getR C dX9_led_47 flX9_19 rkC_0 rfl mmC_0 ?_
        refine ab_iconst C dX9_led_50 (v := 0) rfl ?_
        obtain ⟨q6, hq6, h⟩ := ab_bind h
        refine ab_inv1 C dX9_led_51 mlX9_301 yvX4_endsOf rkC_5 ⟨_, _, rfl⟩ mmC_5 (tX4_endsOf l _ _ hq6) (Nat.le_of_ble_eq_true rfl) (Nat.le_of_ble_eq_true rfl) rfl (Nat.le_of_ble_eq_true rfl) ?_
        obtain rfl := Option.some.inj h
        exact ab_iret C dX9_led_54
      · replace h := ab_neg hc5 h
        refine ab_tswOut C (tgt := 55) dX9_led_1.1 (by have a0 := lv_neT hc1 (a := 0) (by decide); have a1 := lv_neT hc3 (a := 1) (by decide); have a2 := lv_neT hc5 (a := 2) (by decide); omega) (by decide) ?_
        refine ab_iconst C dX9_led_55 (v := (-1)) rfl ?_
        obtain rfl := Option.some.inj h
        exact ab_iret C dX9_led_56
end
def fX9_likely_b18 (σ : ab_S) : Option (Int64 × ab_S) := some ((-9223372036854775808), σ)
def fX9_likely_b59 (t0 : Int64) (σ : ab_S) : Option (Int64 × ab_S) := some (t0, σ)
def fX9_likely (x1 : Int32) (x2 : Int32) (σ : ab_S) : Option (Int64 × ab_S) := (fX7_has x1 σ).bind fun q1 => (if q1 = 0 then fX9_likely_b18 σ else (fX9_isPart x2).bind fun q3 => (if q3 = 0 then fX9_likely_b18 σ else (fX1_weighAll σ).bind fun q5 => (if (lg_cmp q5.1 0) = 0 then fX9_likely_b59 ((-2)) q5.2 else (fX1_weighed x1 q5.2).bind fun q7 => (fX9_lowest q7 q5.1 x2).bind fun q8 => fX9_likely_b59 q8 q5.2)))
section
variable {p : Program} {l : Launch} {e : Env} {s : State} {m : MethodId} {args : Array Value} {below : List Frame} {meth : Method} {c : Code} {D : va_G} {cA : Nat → ClassId} {ad : Nat → Nat → Nat}
set_option maxRecDepth 100000 in
set_option maxHeartbeats 4000000 in
theorem gX9_likely_b18 {R : (Int64 × ab_S)} (C : ab_C yC p s m args meth c D cA ad cX9_likely 5 RX9 (some .long)) (σ : ab_S) (h : fX9_likely_b18 σ = some R) : ab_G yC p l e s m args below meth c D cA ad 5 6 (some (.inr (.inl R.1))) R.2 18 [none, none, none, none, none] [] σ := by
  refine ab_ldc2 C dX9_likely_18 cwX9_199 ?_
  obtain rfl := Option.some.inj h
  exact ab_lret C dX9_likely_21
set_option maxRecDepth 100000 in
set_option maxHeartbeats 4000000 in
theorem gX9_likely_b59 {R : (Int64 × ab_S)} (C : ab_C yC p s m args meth c D cA ad cX9_likely 5 RX9 (some .long)) (t0 : Int64) (σ : ab_S) (h : fX9_likely_b59 t0 σ = some R) : ab_G yC p l e s m args below meth c D cA ad 5 6 (some (.inr (.inl R.1))) R.2 59 [none, none, none, none, none] [.inr (.inl t0)] σ := by
  obtain rfl := Option.some.inj h
  exact ab_lret C dX9_likely_59
set_option maxRecDepth 100000 in
set_option maxHeartbeats 4000000 in
theorem tX9_likely (l : Launch) (x1 : Int32) (x2 : Int32) (σ : ab_S) {R : (Int64 × ab_S)} (h : fX9_likely x1 x2 σ = some R) : ab_M l yC yX9_likely cX9_likely 5 (some .long) 6 [.inr (.inr (0, 0)), .inl x1, .inl x2] σ (some (.inr (.inl R.1))) R.2 := by
  refine ab_M_intro ndC (by decide) (Nat.le_of_ble_eq_true rfl) ?_
  intro p e s m args below meth c D cA ad C
  have C : ab_C yC p s m args meth c D cA ad cX9_likely 5 RX9 (some .long) := C
  refine ab_weak (lv' := [some (.inr (.inr (0, 0))), some (.inl x1), some (.inl x2), none, none]) ⟨.inr rfl, ⟨.inr rfl, ⟨.inr rfl, ⟨.inl rfl, ⟨.inl rfl, trivial⟩⟩⟩⟩⟩ ?_
  refine ab_aload_n C dX9_likely_0 rfl ?_
  refine ab_getR C dX9_likely_1 flX9_10 rkC_0 rfl mmC_0 ?_
  refine ab_iload_n C dX9_likely_4 rfl ?_
  obtain ⟨q1, hq1, h⟩ := ab_bind h
  refine ab_inv1 C dX9_likely_5 mlX9_103 yvX7_has rkC_1 ⟨_, _, rfl⟩ mmC_1 (tX7_has l _ _ hq1) (Nat.le_of_ble_eq_true rfl) (Nat.le_of_ble_eq_true rfl) rfl (Nat.le_of_ble_eq_true rfl) ?_
  refine ab_if_eq C (tgt := 18) dX9_likely_8 (by decide) (fun hc2 => ?_) (fun hc2 => ?_)
  · replace h := ab_pos hc2 h
    refine ab_weak (lv' := [none, none, none, none, none]) ⟨.inl rfl, ⟨.inl rfl, ⟨.inl rfl, ⟨.inl rfl, ⟨.inl rfl, trivial⟩⟩⟩⟩⟩ ?_
    exact gX9_likely_b18 C _ h
  · replace h := ab_neg hc2 h
    refine ab_iload_n C dX9_likely_11 rfl ?_
    obtain ⟨q3, hq3, h⟩ := ab_bind h
    refine ab_invS1 C dX9_likely_12 mlX9_196 ysX9_isPart (tX9_isPart l _ _ hq3) (Nat.le_of_ble_eq_true rfl) (Nat.le_of_ble_eq_true rfl) rfl (Nat.le_of_ble_eq_true rfl) ?_
    refine ab_if_ne C (tgt := 22) dX9_likely_15 (by decide) (fun hc4 => ?_) (fun hc4 => ?_)
    · replace h := ab_neg hc4 h
      refine ab_aload_n C dX9_likely_22 rfl ?_
      refine ab_getR C dX9_likely_23 flX9_49 rkC_0 rfl mmC_0 ?_
      refine ab_aload_n C dX9_likely_26 rfl ?_
      refine ab_getR C dX9_likely_27 flX9_19 rkC_0 rfl mmC_0 ?_
      obtain ⟨q5, hq5, h⟩ := ab_bind h
      refine ab_inv1 C dX9_likely_30 mlX9_201 yvX1_weighAll rkC_21 ⟨_, _, rfl⟩ mmC_21 (tX1_weighAll l _ hq5) (Nat.le_of_ble_eq_true rfl) (Nat.le_of_ble_eq_true rfl) rfl (Nat.le_of_ble_eq_true rfl) ?_
      refine ab_lstore_n C dX9_likely_33 (Nat.le_of_ble_eq_true rfl) ?_
      refine ab_lload_n C dX9_likely_34 rfl ?_
      refine ab_lconst C dX9_likely_35 (v := 0) rfl ?_
      refine ab_lcmp C dX9_likely_36  ?_
      refine ab_if_ne C (tgt := 46) dX9_likely_37 (by decide) (fun hc6 => ?_) (fun hc6 => ?_)
      · replace h := ab_neg hc6 h
        refine ab_aload_n C dX9_likely_46 rfl ?_
        refine ab_getR C dX9_likely_47 flX9_49 rkC_0 rfl mmC_0 ?_
        refine ab_iload_n C dX9_likely_50 rfl ?_
        obtain ⟨q7, hq7, h⟩ := ab_bind h
        refine ab_inv1 C dX9_likely_51 mlX9_207 yvX1_weighed rkC_21 ⟨_, _, rfl⟩ mmC_21 (tX1_weighed l _ _ hq7) (Nat.le_of_ble_eq_true rfl) (Nat.le_of_ble_eq_true rfl) rfl (Nat.le_of_ble_eq_true rfl) ?_
        refine ab_lload_n C dX9_likely_54 rfl ?_
        refine ab_iload_n C dX9_likely_55 rfl ?_
        obtain ⟨q8, hq8, h⟩ := ab_bind h
        refine ab_invS1 C dX9_likely_56 mlX9_211 ysX9_lowest (tX9_lowest l _ _ _ _ hq8) (Nat.le_of_ble_eq_true rfl) (Nat.le_of_ble_eq_true rfl) rfl (Nat.le_of_ble_eq_true rfl) ?_
        refine ab_weak (lv' := [none, none, none, none, none]) ⟨.inl rfl, ⟨.inl rfl, ⟨.inl rfl, ⟨.inl rfl, ⟨.inl rfl, trivial⟩⟩⟩⟩⟩ ?_
        exact gX9_likely_b59 C _ _ h
      · replace h := ab_pos hc6 h
        refine ab_ldc2 C dX9_likely_40 cwX9_205 ?_
        refine ab_goto C (tgt := 59) dX9_likely_43 (by decide) ?_
        refine ab_weak (lv' := [none, none, none, none, none]) ⟨.inl rfl, ⟨.inl rfl, ⟨.inl rfl, ⟨.inl rfl, ⟨.inl rfl, trivial⟩⟩⟩⟩⟩ ?_
        exact gX9_likely_b59 C _ _ h
    · replace h := ab_pos hc4 h
      refine ab_weak (lv' := [none, none, none, none, none]) ⟨.inl rfl, ⟨.inl rfl, ⟨.inl rfl, ⟨.inl rfl, ⟨.inl rfl, trivial⟩⟩⟩⟩⟩ ?_
      exact gX9_likely_b18 C _ h
end
def fX9_mayMend_b74 (t0 : Int32) (σ : ab_S) : Option Int32 := (if ab_isb t0 = true then some t0 else none)
def fX9_mayMend_b73 (σ : ab_S) : Option Int32 := fX9_mayMend_b74 0 σ
def fX9_mayMend_b53 (t0 : Int32) (σ : ab_S) : Option Int32 := (if ab_isb t0 = true then some t0 else none)
def fX9_mayMend_b52 (σ : ab_S) : Option Int32 := fX9_mayMend_b53 0 σ
def fX9_mayMend_b27 (t0 : Int32) (σ : ab_S) : Option Int32 := (if ab_isb t0 = true then some t0 else none)
def fX9_mayMend_b26 (σ : ab_S) : Option Int32 := fX9_mayMend_b27 0 σ
def fX9_mayMend (x1 : Int32) (x2 : Int32) (x3 : Int32) (σ : ab_S) : Option Int32 := (if x2 = 0 then (fX7_has x1 σ).bind fun q9 => (if q9 = 0 then fX9_mayMend_b26 σ else (fX9_isWeight x3).bind fun q11 => (if q11 = 0 then fX9_mayMend_b26 σ else fX9_mayMend_b27 1 σ)) else (if x1 = 0 then (if x2 = 1 then (if x3 < 0 then fX9_mayMend_b52 σ else (if 4 ≤ x3 then fX9_mayMend_b52 σ else fX9_mayMend_b53 1 σ)) else (if x2 = 2 then (if x3 < 1 then fX9_mayMend_b73 σ else (if 3 < x3 then fX9_mayMend_b73 σ else fX9_mayMend_b74 1 σ)) else fX9_mayMend_b73 σ)) else some 0))
section
variable {p : Program} {l : Launch} {e : Env} {s : State} {m : MethodId} {args : Array Value} {below : List Frame} {meth : Method} {c : Code} {D : va_G} {cA : Nat → ClassId} {ad : Nat → Nat → Nat}
set_option maxRecDepth 100000 in
set_option maxHeartbeats 4000000 in
theorem gX9_mayMend_b74 {R : Int32} (C : ab_C yC p s m args meth c D cA ad cX9_mayMend 4 RX9 (some .boolean)) (σ : ab_S) (t0 : Int32) (h : fX9_mayMend_b74 t0 σ = some R) : ab_G yC p l e s m args below meth c D cA ad 4 1 (some (.inl R)) σ 74 [none, none, none, none] [.inl t0] σ := by
  obtain ⟨hg1, h⟩ := ab_grd h
  obtain rfl := Option.some.inj h
  exact ab_zret C dX9_mayMend_74 hg1
set_option maxRecDepth 100000 in
set_option maxHeartbeats 4000000 in
theorem gX9_mayMend_b73 {R : Int32} (C : ab_C yC p s m args meth c D cA ad cX9_mayMend 4 RX9 (some .boolean)) (σ : ab_S) (h : fX9_mayMend_b73 σ = some R) : ab_G yC p l e s m args below meth c D cA ad 4 1 (some (.inl R)) σ 73 [none, none, none, none] [] σ := by
  refine ab_iconst C dX9_mayMend_73 (v := 0) rfl ?_
  refine ab_weak (lv' := [none, none, none, none]) ⟨.inl rfl, ⟨.inl rfl, ⟨.inl rfl, ⟨.inl rfl, trivial⟩⟩⟩⟩ ?_
  exact gX9_mayMend_b74 C _ _ h
set_option maxRecDepth 100000 in
set_option maxHeartbeats 4000000 in
theorem gX9_mayMend_b53 {R : Int32} (C : ab_C yC p s m args meth c D cA ad cX9_mayMend 4 RX9 (some .boolean)) (σ : ab_S) (t0 : Int32) (h : fX9_mayMend_b53 t0 σ = some R) : ab_G yC p l e s m args below meth c D cA ad 4 1 (some (.inl R)) σ 53 [none, none, none, none] [.inl t0] σ := by
  obtain ⟨hg1, h⟩ := ab_grd h
  obtain rfl := Option.some.inj h
  exact ab_zret C dX9_mayMend_53 hg1
set_option maxRecDepth 100000 in
set_option maxHeartbeats 4000000 in
theorem gX9_mayMend_b52 {R : Int32} (C : ab_C yC p s m args meth c D cA ad cX9_mayMend 4 RX9 (some .boolean)) (σ : ab_S) (h : fX9_mayMend_b52 σ = some R) : ab_G yC p l e s m args below meth c D cA ad 4 1 (some (.inl R)) σ 52 [none, none, none, none] [] σ := by
  refine ab_iconst C dX9_mayMend_52 (v := 0) rfl ?_
  refine ab_weak (lv' := [none, none, none, none]) ⟨.inl rfl, ⟨.inl rfl, ⟨.inl rfl, ⟨.inl rfl, trivial⟩⟩⟩⟩ ?_
  exact gX9_mayMend_b53 C _ _ h
set_option maxRecDepth 100000 in
set_option maxHeartbeats 4000000 in
theorem gX9_mayMend_b27 {R : Int32} (C : ab_C yC p s m args meth c D cA ad cX9_mayMend 4 RX9 (some .boolean)) (σ : ab_S) (t0 : Int32) (h : fX9_mayMend_b27 t0 σ = some R) : ab_G yC p l e s m args below meth c D cA ad 4 1 (some (.inl R)) σ 27 [none, none, none, none] [.inl t0] σ := by
  obtain ⟨hg1, h⟩ := ab_grd h
  obtain rfl := Option.some.inj h
  exact ab_zret C dX9_mayMend_27 hg1
set_option maxRecDepth 100000 in
set_option maxHeartbeats 4000000 in
theorem gX9_mayMend_b26 {R : Int32} (C : ab_C yC p s m args meth c D cA ad cX9_mayMend 4 RX9 (some .boolean)) (σ : ab_S) (h : fX9_mayMend_b26 σ = some R) : ab_G yC p l e s m args below meth c D cA ad 4 1 (some (.inl R)) σ 26 [none, none, none, none] [] σ := by
  refine ab_iconst C dX9_mayMend_26 (v := 0) rfl ?_
  refine ab_weak (lv' := [none, none, none, none]) ⟨.inl rfl, ⟨.inl rfl, ⟨.inl rfl, ⟨.inl rfl, trivial⟩⟩⟩⟩ ?_
  exact gX9_mayMend_b27 C _ _ h
set_option maxRecDepth 100000 in
set_option maxHeartbeats 4000000 in
theorem tX9_mayMend (l : Launch) (x1 : Int32) (x2 : Int32) (x3 : Int32) (σ : ab_S) {R : Int32} (h : fX9_mayMend x1 x2 x3 σ = some R) : ab_M l yC yX9_mayMend cX9_mayMend 4 (some .boolean) 1 [.inr (.inr (0, 0)), .inl x1, .inl x2, .inl x3] σ (some (.inl R)) σ := by
  refine ab_M_intro ndC (by decide) (Nat.le_of_ble_eq_true rfl) ?_
  intro p e s m args below meth c D cA ad C
  have C : ab_C yC p s m args meth c D cA ad cX9_mayMend 4 RX9 (some .boolean) := C
  refine ab_weak (lv' := [some (.inr (.inr (0, 0))), some (.inl x1), some (.inl x2), some (.inl x3)]) ⟨.inr rfl, ⟨.inr rfl, ⟨.inr rfl, ⟨.inr rfl, trivial⟩⟩⟩⟩ ?_
  refine ab_iload_n C dX9_mayMend_0 rfl ?_
  refine ab_if_ne C (tgt := 28) dX9_mayMend_1 (by decide) (fun hc1 => ?_) (fun hc1 => ?_)
  · replace h := ab_neg hc1 h
    refine ab_iload_n C dX9_mayMend_28 rfl ?_
    refine ab_if_eq C (tgt := 34) dX9_mayMend_29 (by decide) (fun hc2 => ?_) (fun hc2 => ?_)
    · replace h := ab_pos hc2 h
      refine ab_iload_n C dX9_mayMend_34 rfl ?_
      refine ab_iconst C dX9_mayMend_35 (v := 1) rfl ?_
      refine ab_icmp_ne C (tgt := 54) dX9_mayMend_36 (by decide) (fun hc3 => ?_) (fun hc3 => ?_)
      · replace h := ab_neg hc3 h
        refine ab_iload_n C dX9_mayMend_54 rfl ?_
        refine ab_iconst C dX9_mayMend_55 (v := 2) rfl ?_
        refine ab_icmp_ne C (tgt := 73) dX9_mayMend_56 (by decide) (fun hc4 => ?_) (fun hc4 => ?_)
        · replace h := ab_neg hc4 h
          refine ab_weak (lv' := [none, none, none, none]) ⟨.inl rfl, ⟨.inl rfl, ⟨.inl rfl, ⟨.inl rfl, trivial⟩⟩⟩⟩ ?_
          exact gX9_mayMend_b73 C _ h
        · replace h := ab_pos hc4 h
          refine ab_iload_n C dX9_mayMend_59 rfl ?_
          refine ab_iconst C dX9_mayMend_60 (v := 1) rfl ?_
          refine ab_icmp_lt C (tgt := 73) dX9_mayMend_61 (by decide) (fun hc5 => ?_) (fun hc5 => ?_)
          · replace h := ab_pos hc5 h
            refine ab_weak (lv' := [none, none, none, none]) ⟨.inl rfl, ⟨.inl rfl, ⟨.inl rfl, ⟨.inl rfl, trivial⟩⟩⟩⟩ ?_
            exact gX9_mayMend_b73 C _ h
          · replace h := ab_neg hc5 h
            refine ab_iload_n C dX9_mayMend_64 rfl ?_
            refine ab_iconst C dX9_mayMend_65 (v := 3) rfl ?_
            refine ab_icmp_gt C (tgt := 73) dX9_mayMend_66 (by decide) (fun hc6 => ?_) (fun hc6 => ?_)
            · replace h := ab_pos hc6 h
              refine ab_weak (lv' := [none, none, none, none]) ⟨.inl rfl, ⟨.inl rfl, ⟨.inl rfl, ⟨.inl rfl, trivial⟩⟩⟩⟩ ?_
              exact gX9_mayMend_b73 C _ h
            · replace h := ab_neg hc6 h
              refine ab_iconst C dX9_mayMend_69 (v := 1) rfl ?_
              refine ab_goto C (tgt := 74) dX9_mayMend_70 (by decide) ?_
              refine ab_weak (lv' := [none, none, none, none]) ⟨.inl rfl, ⟨.inl rfl, ⟨.inl rfl, ⟨.inl rfl, trivial⟩⟩⟩⟩ ?_
              exact gX9_mayMend_b74 C _ _ h
      · replace h := ab_pos hc3 h
        refine ab_iload_n C dX9_mayMend_39 rfl ?_
        refine ab_if_lt C (tgt := 52) dX9_mayMend_40 (by decide) (fun hc7 => ?_) (fun hc7 => ?_)
        · replace h := ab_pos hc7 h
          refine ab_weak (lv' := [none, none, none, none]) ⟨.inl rfl, ⟨.inl rfl, ⟨.inl rfl, ⟨.inl rfl, trivial⟩⟩⟩⟩ ?_
          exact gX9_mayMend_b52 C _ h
        · replace h := ab_neg hc7 h
          refine ab_iload_n C dX9_mayMend_43 rfl ?_
          refine ab_iconst C dX9_mayMend_44 (v := 4) rfl ?_
          refine ab_icmp_ge C (tgt := 52) dX9_mayMend_45 (by decide) (fun hc8 => ?_) (fun hc8 => ?_)
          · replace h := ab_pos hc8 h
            refine ab_weak (lv' := [none, none, none, none]) ⟨.inl rfl, ⟨.inl rfl, ⟨.inl rfl, ⟨.inl rfl, trivial⟩⟩⟩⟩ ?_
            exact gX9_mayMend_b52 C _ h
          · replace h := ab_neg hc8 h
            refine ab_iconst C dX9_mayMend_48 (v := 1) rfl ?_
            refine ab_goto C (tgt := 53) dX9_mayMend_49 (by decide) ?_
            refine ab_weak (lv' := [none, none, none, none]) ⟨.inl rfl, ⟨.inl rfl, ⟨.inl rfl, ⟨.inl rfl, trivial⟩⟩⟩⟩ ?_
            exact gX9_mayMend_b53 C _ _ h
    · replace h := ab_neg hc2 h
      refine ab_iconst C dX9_mayMend_32 (v := 0) rfl ?_
      obtain rfl := Option.some.inj h
      exact ab_zret C dX9_mayMend_33 rfl
  · replace h := ab_pos hc1 h
    refine ab_aload_n C dX9_mayMend_4 rfl ?_
    refine ab_getR C dX9_mayMend_5 flX9_10 rkC_0 rfl mmC_0 ?_
    refine ab_iload_n C dX9_mayMend_8 rfl ?_
    obtain ⟨q9, hq9, h⟩ := ab_bind h
    refine ab_inv1 C dX9_mayMend_9 mlX9_103 yvX7_has rkC_1 ⟨_, _, rfl⟩ mmC_1 (tX7_has l _ _ hq9) (Nat.le_of_ble_eq_true rfl) (Nat.le_of_ble_eq_true rfl) rfl (Nat.le_of_ble_eq_true rfl) ?_
    refine ab_if_eq C (tgt := 26) dX9_mayMend_12 (by decide) (fun hc10 => ?_) (fun hc10 => ?_)
    · replace h := ab_pos hc10 h
      refine ab_weak (lv' := [none, none, none, none]) ⟨.inl rfl, ⟨.inl rfl, ⟨.inl rfl, ⟨.inl rfl, trivial⟩⟩⟩⟩ ?_
      exact gX9_mayMend_b26 C _ h
    · replace h := ab_neg hc10 h
      refine ab_iload_n C dX9_mayMend_15 rfl ?_
      obtain ⟨q11, hq11, h⟩ := ab_bind h
      refine ab_invS1 C dX9_mayMend_16 mlX9_112 ysX9_isWeight (tX9_isWeight l _ _ hq11) (Nat.le_of_ble_eq_true rfl) (Nat.le_of_ble_eq_true rfl) rfl (Nat.le_of_ble_eq_true rfl) ?_
      refine ab_if_eq C (tgt := 26) dX9_mayMend_19 (by decide) (fun hc12 => ?_) (fun hc12 => ?_)
      · replace h := ab_pos hc12 h
        refine ab_weak (lv' := [none, none, none, none]) ⟨.inl rfl, ⟨.inl rfl, ⟨.inl rfl, ⟨.inl rfl, trivial⟩⟩⟩⟩ ?_
        exact gX9_mayMend_b26 C _ h
      · replace h := ab_neg hc12 h
        refine ab_iconst C dX9_mayMend_22 (v := 1) rfl ?_
        refine ab_goto C (tgt := 27) dX9_mayMend_23 (by decide) ?_
        refine ab_weak (lv' := [none, none, none, none]) ⟨.inl rfl, ⟨.inl rfl, ⟨.inl rfl, ⟨.inl rfl, trivial⟩⟩⟩⟩ ?_
        exact gX9_mayMend_b27 C _ _ h
end
def fX9_mayOpen_b45 (t0 : Int32) (σ : ab_S) : Option Int32 := (if ab_isb t0 = true then some t0 else none)
def fX9_mayOpen_b44 (σ : ab_S) : Option Int32 := fX9_mayOpen_b45 0 σ
def fX9_mayOpen (x1 : Int32) (σ : ab_S) : Option Int32 := (if x1 = ((-1)) then some 1 else (fX7_has x1 σ).bind fun q2 => (if q2 = 0 then fX9_mayOpen_b44 σ else (if x1 = (σ.1 5 0 4) then fX9_mayOpen_b44 σ else (fX4_isOpen x1 σ).bind fun q5 => (if q5 = 0 then fX9_mayOpen_b45 1 σ else fX9_mayOpen_b44 σ))))
section
variable {p : Program} {l : Launch} {e : Env} {s : State} {m : MethodId} {args : Array Value} {below : List Frame} {meth : Method} {c : Code} {D : va_G} {cA : Nat → ClassId} {ad : Nat → Nat → Nat}
set_option maxRecDepth 100000 in
set_option maxHeartbeats 4000000 in
theorem gX9_mayOpen_b45 {R : Int32} (C : ab_C yC p s m args meth c D cA ad cX9_mayOpen 2 RX9 (some .boolean)) (σ : ab_S) (t0 : Int32) (h : fX9_mayOpen_b45 t0 σ = some R) : ab_G yC p l e s m args below meth c D cA ad 2 2 (some (.inl R)) σ 45 [none, none] [.inl t0] σ := by
  obtain ⟨hg1, h⟩ := ab_grd h
  obtain rfl := Option.some.inj h
  exact ab_zret C dX9_mayOpen_45 hg1
set_option maxRecDepth 100000 in
set_option maxHeartbeats 4000000 in
theorem gX9_mayOpen_b44 {R : Int32} (C : ab_C yC p s m args meth c D cA ad cX9_mayOpen 2 RX9 (some .boolean)) (σ : ab_S) (h : fX9_mayOpen_b44 σ = some R) : ab_G yC p l e s m args below meth c D cA ad 2 2 (some (.inl R)) σ 44 [none, none] [] σ := by
  refine ab_iconst C dX9_mayOpen_44 (v := 0) rfl ?_
  refine ab_weak (lv' := [none, none]) ⟨.inl rfl, ⟨.inl rfl, trivial⟩⟩ ?_
  exact gX9_mayOpen_b45 C _ _ h
set_option maxRecDepth 100000 in
set_option maxHeartbeats 4000000 in
theorem tX9_mayOpen (l : Launch) (x1 : Int32) (σ : ab_S) {R : Int32} (h : fX9_mayOpen x1 σ = some R) : ab_M l yC yX9_mayOpen cX9_mayOpen 2 (some .boolean) 2 [.inr (.inr (0, 0)), .inl x1] σ (some (.inl R)) σ := by
  refine ab_M_intro ndC (by decide) (Nat.le_of_ble_eq_true rfl) ?_
  intro p e s m args below meth c D cA ad C
  have C : ab_C yC p s m args meth c D cA ad cX9_mayOpen 2 RX9 (some .boolean) := C
  refine ab_weak (lv' := [some (.inr (.inr (0, 0))), some (.inl x1)]) ⟨.inr rfl, ⟨.inr rfl, trivial⟩⟩ ?_
  refine ab_iload_n C dX9_mayOpen_0 rfl ?_
  refine ab_iconst C dX9_mayOpen_1 (v := (-1)) rfl ?_
  refine ab_icmp_ne C (tgt := 7) dX9_mayOpen_2 (by decide) (fun hc1 => ?_) (fun hc1 => ?_)
  · replace h := ab_neg hc1 h
    refine ab_aload_n C dX9_mayOpen_7 rfl ?_
    refine ab_getR C dX9_mayOpen_8 flX9_10 rkC_0 rfl mmC_0 ?_
    refine ab_iload_n C dX9_mayOpen_11 rfl ?_
    obtain ⟨q2, hq2, h⟩ := ab_bind h
    refine ab_inv1 C dX9_mayOpen_12 mlX9_103 yvX7_has rkC_1 ⟨_, _, rfl⟩ mmC_1 (tX7_has l _ _ hq2) (Nat.le_of_ble_eq_true rfl) (Nat.le_of_ble_eq_true rfl) rfl (Nat.le_of_ble_eq_true rfl) ?_
    refine ab_if_eq C (tgt := 44) dX9_mayOpen_15 (by decide) (fun hc3 => ?_) (fun hc3 => ?_)
    · replace h := ab_pos hc3 h
      refine ab_weak (lv' := [none, none]) ⟨.inl rfl, ⟨.inl rfl, trivial⟩⟩ ?_
      exact gX9_mayOpen_b44 C _ h
    · replace h := ab_neg hc3 h
      refine ab_iload_n C dX9_mayOpen_18 rfl ?_
      refine ab_aload_n C dX9_mayOpen_19 rfl ?_
      refine ab_getR C dX9_mayOpen_20 flX9_19 rkC_0 rfl mmC_0 ?_
      refine ab_getI C dX9_mayOpen_23 flX9_162 rkC_5 rfl mmC_5 ?_
      refine ab_icmp_eq C (tgt := 44) dX9_mayOpen_26 (by decide) (fun hc4 => ?_) (fun hc4 => ?_)
      · replace h := ab_pos hc4 h
        refine ab_weak (lv' := [none, none]) ⟨.inl rfl, ⟨.inl rfl, trivial⟩⟩ ?_
        exact gX9_mayOpen_b44 C _ h
      · replace h := ab_neg hc4 h
        refine ab_aload_n C dX9_mayOpen_29 rfl ?_
        refine ab_getR C dX9_mayOpen_30 flX9_19 rkC_0 rfl mmC_0 ?_
        refine ab_iload_n C dX9_mayOpen_33 rfl ?_
        obtain ⟨q5, hq5, h⟩ := ab_bind h
        refine ab_inv1 C dX9_mayOpen_34 mlX9_150 yvX4_isOpen rkC_5 ⟨_, _, rfl⟩ mmC_5 (tX4_isOpen l _ _ hq5) (Nat.le_of_ble_eq_true rfl) (Nat.le_of_ble_eq_true rfl) rfl (Nat.le_of_ble_eq_true rfl) ?_
        refine ab_if_ne C (tgt := 44) dX9_mayOpen_37 (by decide) (fun hc6 => ?_) (fun hc6 => ?_)
        · replace h := ab_neg hc6 h
          refine ab_weak (lv' := [none, none]) ⟨.inl rfl, ⟨.inl rfl, trivial⟩⟩ ?_
          exact gX9_mayOpen_b44 C _ h
        · replace h := ab_pos hc6 h
          refine ab_iconst C dX9_mayOpen_40 (v := 1) rfl ?_
          refine ab_goto C (tgt := 45) dX9_mayOpen_41 (by decide) ?_
          refine ab_weak (lv' := [none, none]) ⟨.inl rfl, ⟨.inl rfl, trivial⟩⟩ ?_
          exact gX9_mayOpen_b45 C _ _ h
  · replace h := ab_pos hc1 h
    refine ab_iconst C dX9_mayOpen_5 (v := 1) rfl ?_
    obtain rfl := Option.some.inj h
    exact ab_zret C dX9_mayOpen_6 rfl
end
def fX9_mend_b51 (v4 : Int32) (σ : ab_S) : Option (Int32 × ab_S) := some (v4, σ)
def fX9_mend (x1 : Int32) (x2 : Int32) (x3 : Int32) (σ : ab_S) : Option (Int32 × ab_S) := (fX9_mayMend x1 x2 x3 σ).bind fun q1 => (if q1 = 0 then some ((-1), σ) else (fX7_told x1 x2 σ).bind fun q3 => (if q3 = x3 then fX9_mend_b51 q3 σ else (fX2_add x1 x2 q3 x3 σ).bind fun q5 => (fX7_tell x1 x2 x3 q5).bind fun q6 => fX9_mend_b51 q3 q6))
section
variable {p : Program} {l : Launch} {e : Env} {s : State} {m : MethodId} {args : Array Value} {below : List Frame} {meth : Method} {c : Code} {D : va_G} {cA : Nat → ClassId} {ad : Nat → Nat → Nat}
set_option maxRecDepth 100000 in
set_option maxHeartbeats 4000000 in
theorem gX9_mend_b51 {R : (Int32 × ab_S)} (C : ab_C yC p s m args meth c D cA ad cX9_mend 5 RX9 (some .int)) (v4 : Int32) (σ : ab_S) (h : fX9_mend_b51 v4 σ = some R) : ab_G yC p l e s m args below meth c D cA ad 5 3 (some (.inl R.1)) R.2 51 [none, none, none, none, some (.inl v4)] [] σ := by
  refine ab_iload C dX9_mend_51 rfl ?_
  obtain rfl := Option.some.inj h
  exact ab_iret C dX9_mend_53
set_option maxRecDepth 100000 in
set_option maxHeartbeats 4000000 in
theorem tX9_mend (l : Launch) (x1 : Int32) (x2 : Int32) (x3 : Int32) (σ : ab_S) {R : (Int32 × ab_S)} (h : fX9_mend x1 x2 x3 σ = some R) : ab_M l yC yX9_mend cX9_mend 5 (some .int) 3 [.inr (.inr (0, 0)), .inl x1, .inl x2, .inl x3] σ (some (.inl R.1)) R.2 := by
  refine ab_M_intro ndC (by decide) (Nat.le_of_ble_eq_true rfl) ?_
  intro p e s m args below meth c D cA ad C
  have C : ab_C yC p s m args meth c D cA ad cX9_mend 5 RX9 (some .int) := C
  refine ab_weak (lv' := [some (.inr (.inr (0, 0))), some (.inl x1), some (.inl x2), some (.inl x3), none]) ⟨.inr rfl, ⟨.inr rfl, ⟨.inr rfl, ⟨.inr rfl, ⟨.inl rfl, trivial⟩⟩⟩⟩⟩ ?_
  refine ab_aload_n C dX9_mend_0 rfl ?_
  refine ab_iload_n C dX9_mend_1 rfl ?_
  refine ab_iload_n C dX9_mend_2 rfl ?_
  refine ab_iload_n C dX9_mend_3 rfl ?_
  obtain ⟨q1, hq1, h⟩ := ab_bind h
  refine ab_inv1 C dX9_mend_4 mlX9_119 yvX9_mayMend rkC_0 ⟨_, _, rfl⟩ mmC_0 (tX9_mayMend l _ _ _ _ hq1) (Nat.le_of_ble_eq_true rfl) (Nat.le_of_ble_eq_true rfl) rfl (Nat.le_of_ble_eq_true rfl) ?_
  refine ab_if_ne C (tgt := 12) dX9_mend_7 (by decide) (fun hc2 => ?_) (fun hc2 => ?_)
  · replace h := ab_neg hc2 h
    refine ab_aload_n C dX9_mend_12 rfl ?_
    refine ab_getR C dX9_mend_13 flX9_10 rkC_0 rfl mmC_0 ?_
    refine ab_iload_n C dX9_mend_16 rfl ?_
    refine ab_iload_n C dX9_mend_17 rfl ?_
    obtain ⟨q3, hq3, h⟩ := ab_bind h
    refine ab_inv1 C dX9_mend_18 mlX9_122 yvX7_told rkC_1 ⟨_, _, rfl⟩ mmC_1 (tX7_told l _ _ _ hq3) (Nat.le_of_ble_eq_true rfl) (Nat.le_of_ble_eq_true rfl) rfl (Nat.le_of_ble_eq_true rfl) ?_
    refine ab_istore C dX9_mend_21 (Nat.le_of_ble_eq_true rfl) ?_
    refine ab_iload C dX9_mend_23 rfl ?_
    refine ab_iload_n C dX9_mend_25 rfl ?_
    refine ab_icmp_eq C (tgt := 51) dX9_mend_26 (by decide) (fun hc4 => ?_) (fun hc4 => ?_)
    · replace h := ab_pos hc4 h
      refine ab_weak (lv' := [none, none, none, none, some (.inl q3)]) ⟨.inl rfl, ⟨.inl rfl, ⟨.inl rfl, ⟨.inl rfl, ⟨.inr rfl, trivial⟩⟩⟩⟩⟩ ?_
      exact gX9_mend_b51 C _ _ h
    · replace h := ab_neg hc4 h
      refine ab_aload_n C dX9_mend_29 rfl ?_
      refine ab_getR C dX9_mend_30 flX9_33 rkC_0 rfl mmC_0 ?_
      refine ab_iload_n C dX9_mend_33 rfl ?_
      refine ab_iload_n C dX9_mend_34 rfl ?_
      refine ab_iload C dX9_mend_35 rfl ?_
      refine ab_iload_n C dX9_mend_37 rfl ?_
      obtain ⟨q5, hq5, h⟩ := ab_bind h
      refine ab_inv0 C dX9_mend_38 mlX9_126 yvX2_add rkC_13 ⟨_, _, rfl⟩ mmC_13 (tX2_add l _ _ _ _ _ hq5) (Nat.le_of_ble_eq_true rfl) (Nat.le_of_ble_eq_true rfl) rfl (Nat.le_of_ble_eq_true rfl) ?_
      refine ab_aload_n C dX9_mend_41 rfl ?_
      refine ab_getR C dX9_mend_42 flX9_10 rkC_0 rfl mmC_0 ?_
      refine ab_iload_n C dX9_mend_45 rfl ?_
      refine ab_iload_n C dX9_mend_46 rfl ?_
      refine ab_iload_n C dX9_mend_47 rfl ?_
      obtain ⟨q6, hq6, h⟩ := ab_bind h
      refine ab_inv0 C dX9_mend_48 mlX9_130 yvX7_tell rkC_1 ⟨_, _, rfl⟩ mmC_1 (tX7_tell l _ _ _ _ hq6) (Nat.le_of_ble_eq_true rfl) (Nat.le_of_ble_eq_true rfl) rfl (Nat.le_of_ble_eq_true rfl) ?_
      refine ab_weak (lv' := [none, none, none, none, some (.inl q3)]) ⟨.inl rfl, ⟨.inl rfl, ⟨.inl rfl, ⟨.inl rfl, ⟨.inr rfl, trivial⟩⟩⟩⟩⟩ ?_
      exact gX9_mend_b51 C _ _ h
  · replace h := ab_pos hc2 h
    refine ab_iconst C dX9_mend_10 (v := (-1)) rfl ?_
    obtain rfl := Option.some.inj h
    exact ab_iret C dX9_mend_11
end
def fX9_next_b26 (σ : ab_S) : Option (Int64 × ab_S) := some ((-9223372036854775808), σ)
def fX9_next (x1 : Int32) (x2 : Int32) (σ : ab_S) : Option (Int64 × ab_S) := (fX9_isPart x2).bind fun q1 => (if q1 = 0 then fX9_next_b26 σ else (fX9_mayOpen x1 σ).bind fun q3 => (if q3 = 0 then fX9_next_b26 σ else (if (σ.1 5 0 3) < 3 then (fX1_weighAll σ).bind fun q6 => (if (lg_cmp q6.1 0) = 0 then some ((-2), q6.2) else (fX1_weighNext x1 q6.2).bind fun q8 => (fX7_wholeAct q8.2).bind fun q9 => (fX9_lowest q8.1 (q6.1 * q9) x2).bind fun q10 => some (q10, q8.2)) else fX9_next_b26 σ)))
section
variable {p : Program} {l : Launch} {e : Env} {s : State} {m : MethodId} {args : Array Value} {below : List Frame} {meth : Method} {c : Code} {D : va_G} {cA : Nat → ClassId} {ad : Nat → Nat → Nat}
set_option maxRecDepth 100000 in
set_option maxHeartbeats 4000000 in
theorem gX9_next_b26 {R : (Int64 × ab_S)} (C : ab_C yC p s m args meth c D cA ad cX9_next 5 RX9 (some .long)) (σ : ab_S) (h : fX9_next_b26 σ = some R) : ab_G yC p l e s m args below meth c D cA ad 5 6 (some (.inr (.inl R.1))) R.2 26 [none, none, none, none, none] [] σ := by
  refine ab_ldc2 C dX9_next_26 cwX9_199 ?_
  obtain rfl := Option.some.inj h
  exact ab_lret C dX9_next_29
set_option maxRecDepth 100000 in
set_option maxHeartbeats 4000000 in
theorem tX9_next (l : Launch) (x1 : Int32) (x2 : Int32) (σ : ab_S) {R : (Int64 × ab_S)} (h : fX9_next x1 x2 σ = some R) : ab_M l yC yX9_next cX9_next 5 (some .long) 6 [.inr (.inr (0, 0)), .inl x1, .inl x2] σ (some (.inr (.inl R.1))) R.2 := by
  refine ab_M_intro ndC (by decide) (Nat.le_of_ble_eq_true rfl) ?_
  intro p e s m args below meth c D cA ad C
  have C : ab_C yC p s m args meth c D cA ad cX9_next 5 RX9 (some .long) := C
  refine ab_weak (lv' := [some (.inr (.inr (0, 0))), some (.inl x1), some (.inl x2), none, none]) ⟨.inr rfl, ⟨.inr rfl, ⟨.inr rfl, ⟨.inl rfl, ⟨.inl rfl, trivial⟩⟩⟩⟩⟩ ?_
  refine ab_iload_n C dX9_next_0 rfl ?_
  obtain ⟨q1, hq1, h⟩ := ab_bind h
  refine ab_invS1 C dX9_next_1 mlX9_196 ysX9_isPart (tX9_isPart l _ _ hq1) (Nat.le_of_ble_eq_true rfl) (Nat.le_of_ble_eq_true rfl) rfl (Nat.le_of_ble_eq_true rfl) ?_
  refine ab_if_eq C (tgt := 26) dX9_next_4 (by decide) (fun hc2 => ?_) (fun hc2 => ?_)
  · replace h := ab_pos hc2 h
    refine ab_weak (lv' := [none, none, none, none, none]) ⟨.inl rfl, ⟨.inl rfl, ⟨.inl rfl, ⟨.inl rfl, ⟨.inl rfl, trivial⟩⟩⟩⟩⟩ ?_
    exact gX9_next_b26 C _ h
  · replace h := ab_neg hc2 h
    refine ab_aload_n C dX9_next_7 rfl ?_
    refine ab_iload_n C dX9_next_8 rfl ?_
    obtain ⟨q3, hq3, h⟩ := ab_bind h
    refine ab_inv1 C dX9_next_9 mlX9_188 yvX9_mayOpen rkC_0 ⟨_, _, rfl⟩ mmC_0 (tX9_mayOpen l _ _ hq3) (Nat.le_of_ble_eq_true rfl) (Nat.le_of_ble_eq_true rfl) rfl (Nat.le_of_ble_eq_true rfl) ?_
    refine ab_if_eq C (tgt := 26) dX9_next_12 (by decide) (fun hc4 => ?_) (fun hc4 => ?_)
    · replace h := ab_pos hc4 h
      refine ab_weak (lv' := [none, none, none, none, none]) ⟨.inl rfl, ⟨.inl rfl, ⟨.inl rfl, ⟨.inl rfl, ⟨.inl rfl, trivial⟩⟩⟩⟩⟩ ?_
      exact gX9_next_b26 C _ h
    · replace h := ab_neg hc4 h
      refine ab_aload_n C dX9_next_15 rfl ?_
      refine ab_getR C dX9_next_16 flX9_19 rkC_0 rfl mmC_0 ?_
      refine ab_getI C dX9_next_19 flX9_138 rkC_5 rfl mmC_5 ?_
      refine ab_iconst C dX9_next_22 (v := 3) rfl ?_
      refine ab_icmp_lt C (tgt := 30) dX9_next_23 (by decide) (fun hc5 => ?_) (fun hc5 => ?_)
      · replace h := ab_pos hc5 h
        refine ab_aload_n C dX9_next_30 rfl ?_
        refine ab_getR C dX9_next_31 flX9_49 rkC_0 rfl mmC_0 ?_
        refine ab_aload_n C dX9_next_34 rfl ?_
        refine ab_getR C dX9_next_35 flX9_19 rkC_0 rfl mmC_0 ?_
        obtain ⟨q6, hq6, h⟩ := ab_bind h
        refine ab_inv1 C dX9_next_38 mlX9_201 yvX1_weighAll rkC_21 ⟨_, _, rfl⟩ mmC_21 (tX1_weighAll l _ hq6) (Nat.le_of_ble_eq_true rfl) (Nat.le_of_ble_eq_true rfl) rfl (Nat.le_of_ble_eq_true rfl) ?_
        refine ab_lstore_n C dX9_next_41 (Nat.le_of_ble_eq_true rfl) ?_
        refine ab_lload_n C dX9_next_42 rfl ?_
        refine ab_lconst C dX9_next_43 (v := 0) rfl ?_
        refine ab_lcmp C dX9_next_44  ?_
        refine ab_if_ne C (tgt := 52) dX9_next_45 (by decide) (fun hc7 => ?_) (fun hc7 => ?_)
        · replace h := ab_neg hc7 h
          refine ab_aload_n C dX9_next_52 rfl ?_
          refine ab_getR C dX9_next_53 flX9_49 rkC_0 rfl mmC_0 ?_
          refine ab_aload_n C dX9_next_56 rfl ?_
          refine ab_getR C dX9_next_57 flX9_19 rkC_0 rfl mmC_0 ?_
          refine ab_iload_n C dX9_next_60 rfl ?_
          obtain ⟨q8, hq8, h⟩ := ab_bind h
          refine ab_inv1 C dX9_next_61 mlX9_219 yvX1_weighNext rkC_21 ⟨_, _, rfl⟩ mmC_21 (tX1_weighNext l _ _ hq8) (Nat.le_of_ble_eq_true rfl) (Nat.le_of_ble_eq_true rfl) rfl (Nat.le_of_ble_eq_true rfl) ?_
          refine ab_lload_n C dX9_next_64 rfl ?_
          refine ab_aload_n C dX9_next_65 rfl ?_
          refine ab_getR C dX9_next_66 flX9_10 rkC_0 rfl mmC_0 ?_
          obtain ⟨q9, hq9, h⟩ := ab_bind h
          refine ab_inv1 C dX9_next_69 mlX9_223 yvX7_wholeAct rkC_1 ⟨_, _, rfl⟩ mmC_1 (tX7_wholeAct l _ hq9) (Nat.le_of_ble_eq_true rfl) (Nat.le_of_ble_eq_true rfl) rfl (Nat.le_of_ble_eq_true rfl) ?_
          refine ab_lmul C dX9_next_72  ?_
          refine ab_iload_n C dX9_next_73 rfl ?_
          obtain ⟨q10, hq10, h⟩ := ab_bind h
          refine ab_invS1 C dX9_next_74 mlX9_211 ysX9_lowest (tX9_lowest l _ _ _ _ hq10) (Nat.le_of_ble_eq_true rfl) (Nat.le_of_ble_eq_true rfl) rfl (Nat.le_of_ble_eq_true rfl) ?_
          obtain rfl := Option.some.inj h
          exact ab_lret C dX9_next_77
        · replace h := ab_pos hc7 h
          refine ab_ldc2 C dX9_next_48 cwX9_205 ?_
          obtain rfl := Option.some.inj h
          exact ab_lret C dX9_next_51
      · replace h := ab_neg hc5 h
        refine ab_weak (lv' := [none, none, none, none, none]) ⟨.inl rfl, ⟨.inl rfl, ⟨.inl rfl, ⟨.inl rfl, ⟨.inl rfl, trivial⟩⟩⟩⟩⟩ ?_
        exact gX9_next_b26 C _ h
end
def fX9_ofAll (x1 : Int32) (σ : ab_S) : Option Int32 := (if x1 = 20 then some (σ.1 1 0 4) else (if x1 = 21 then some (σ.1 1 0 5) else (if x1 = 22 then some (σ.1 5 0 4) else (if x1 = 23 then some (σ.1 1 0 3) else some ((-2000000000))))))
section
variable {p : Program} {l : Launch} {e : Env} {s : State} {m : MethodId} {args : Array Value} {below : List Frame} {meth : Method} {c : Code} {D : va_G} {cA : Nat → ClassId} {ad : Nat → Nat → Nat}
set_option maxRecDepth 100000 in
set_option maxHeartbeats 4000000 in
theorem tX9_ofAll (l : Launch) (x1 : Int32) (σ : ab_S) {R : Int32} (h : fX9_ofAll x1 σ = some R) : ab_M l yC yX9_ofAll cX9_ofAll 2 (some .int) 0 [.inr (.inr (0, 0)), .inl x1] σ (some (.inl R)) σ := by
  refine ab_M_intro ndC (by decide) (Nat.le_of_ble_eq_true rfl) ?_
  intro p e s m args below meth c D cA ad C
  have C : ab_C yC p s m args meth c D cA ad cX9_ofAll 2 RX9 (some .int) := C
  refine ab_weak (lv' := [some (.inr (.inr (0, 0))), some (.inl x1)]) ⟨.inr rfl, ⟨.inr rfl, trivial⟩⟩ ?_
  refine ab_iload_n C dX9_ofAll_0 rfl ?_
  by_cases hc1 : x1 = 20
  · replace h := ab_pos hc1 h
    refine ab_tswIn C (tgt := 32) dX9_ofAll_1.1 20 (by rw [hc1]; decide) (by decide) (by decide) rfl (by decide) ?_
    refine ab_aload_n C dX9_ofAll_32 rfl ?_
    refine ab_getR C dX9_ofAll_33 flX9_10 rkC_0 rfl mmC_0 ?_
    refine ab_getI C dX9_ofAll_36 flX9_156 rkC_1 rfl mmC_1 ?_
    obtain rfl := Option.some.inj h
    exact ab_iret C dX9_ofAll_39
  · replace h := ab_neg hc1 h
    by_cases hc2 : x1 = 21
    · replace h := ab_pos hc2 h
      refine ab_tswIn C (tgt := 40) dX9_ofAll_1.1 21 (by rw [hc2]; decide) (by decide) (by decide) rfl (by decide) ?_
      refine ab_aload_n C dX9_ofAll_40 rfl ?_
      refine ab_getR C dX9_ofAll_41 flX9_10 rkC_0 rfl mmC_0 ?_
      refine ab_getI C dX9_ofAll_44 flX9_159 rkC_1 rfl mmC_1 ?_
      obtain rfl := Option.some.inj h
      exact ab_iret C dX9_ofAll_47
    · replace h := ab_neg hc2 h
      by_cases hc3 : x1 = 22
      · replace h := ab_pos hc3 h
        refine ab_tswIn C (tgt := 48) dX9_ofAll_1.1 22 (by rw [hc3]; decide) (by decide) (by decide) rfl (by decide) ?_
        refine ab_aload_n C dX9_ofAll_48 rfl ?_
        refine ab_getR C dX9_ofAll_49 flX9_19 rkC_0 rfl mmC_0 ?_
        refine ab_getI C dX9_ofAll_52 flX9_162 rkC_5 rfl mmC_5 ?_
        obtain rfl := Option.some.inj h
        exact ab_iret C dX9_ofAll_55
      · replace h := ab_neg hc3 h
        by_cases hc4 : x1 = 23
        · replace h := ab_pos hc4 h
          refine ab_tswIn C (tgt := 56) dX9_ofAll_1.1 23 (by rw [hc4]; decide) (by decide) (by decide) rfl (by decide) ?_
          refine ab_aload_n C dX9_ofAll_56 rfl ?_
          refine ab_getR C dX9_ofAll_57 flX9_10 rkC_0 rfl mmC_0 ?_
          refine ab_getI C dX9_ofAll_60 flX9_76 rkC_1 rfl mmC_1 ?_
          obtain rfl := Option.some.inj h
          exact ab_iret C dX9_ofAll_63
        · replace h := ab_neg hc4 h
          refine ab_tswOut C (tgt := 64) dX9_ofAll_1.1 (by have a0 := lv_neT hc1 (a := 20) (by decide); have a1 := lv_neT hc2 (a := 21) (by decide); have a2 := lv_neT hc3 (a := 22) (by decide); have a3 := lv_neT hc4 (a := 23) (by decide); omega) (by decide) ?_
          refine ab_ldc C dX9_ofAll_64 cwX9_137 ?_
          obtain rfl := Option.some.inj h
          exact ab_iret C dX9_ofAll_66
end
def fX9_ofDoor_b35 (t0 : Int32) (σ : ab_S) : Option Int32 := some t0
def fX9_ofDoor (x1 : Int32) (x2 : Int32) (σ : ab_S) : Option Int32 := (if x2 = 0 then (fX7_told x1 0 σ).bind fun q6 => some q6 else (if x2 = 1 then (fX4_isOpen x1 σ).bind fun q4 => (if q4 = 0 then fX9_ofDoor_b35 0 σ else fX9_ofDoor_b35 1 σ) else (fX7_saidOf x1 σ).bind fun q3 => some q3))
section
variable {p : Program} {l : Launch} {e : Env} {s : State} {m : MethodId} {args : Array Value} {below : List Frame} {meth : Method} {c : Code} {D : va_G} {cA : Nat → ClassId} {ad : Nat → Nat → Nat}
set_option maxRecDepth 100000 in
set_option maxHeartbeats 4000000 in
theorem gX9_ofDoor_b35 {R : Int32} (C : ab_C yC p s m args meth c D cA ad cX9_ofDoor 3 RX9 (some .int)) (σ : ab_S) (t0 : Int32) (h : fX9_ofDoor_b35 t0 σ = some R) : ab_G yC p l e s m args below meth c D cA ad 3 2 (some (.inl R)) σ 35 [none, none, none] [.inl t0] σ := by
  obtain rfl := Option.some.inj h
  exact ab_iret C dX9_ofDoor_35
set_option maxRecDepth 100000 in
set_option maxHeartbeats 4000000 in
theorem tX9_ofDoor (l : Launch) (x1 : Int32) (x2 : Int32) (σ : ab_S) {R : Int32} (h : fX9_ofDoor x1 x2 σ = some R) : ab_M l yC yX9_ofDoor cX9_ofDoor 3 (some .int) 2 [.inr (.inr (0, 0)), .inl x1, .inl x2] σ (some (.inl R)) σ := by
  refine ab_M_intro ndC (by decide) (Nat.le_of_ble_eq_true rfl) ?_
  intro p e s m args below meth c D cA ad C
  have C : ab_C yC p s m args meth c D cA ad cX9_ofDoor 3 RX9 (some .int) := C
  refine ab_weak (lv' := [some (.inr (.inr (0, 0))), some (.inl x1), some (.inl x2)]) ⟨.inr rfl, ⟨.inr rfl, ⟨.inr rfl, trivial⟩⟩⟩ ?_
  refine ab_iload_n C dX9_ofDoor_0 rfl ?_
  refine ab_if_ne C (tgt := 14) dX9_ofDoor_1 (by decide) (fun hc1 => ?_) (fun hc1 => ?_)
  · replace h := ab_neg hc1 h
    refine ab_iload_n C dX9_ofDoor_14 rfl ?_
    refine ab_iconst C dX9_ofDoor_15 (v := 1) rfl ?_
    refine ab_icmp_ne C (tgt := 36) dX9_ofDoor_16 (by decide) (fun hc2 => ?_) (fun hc2 => ?_)
    · replace h := ab_neg hc2 h
      refine ab_aload_n C dX9_ofDoor_36 rfl ?_
      refine ab_getR C dX9_ofDoor_37 flX9_10 rkC_0 rfl mmC_0 ?_
      refine ab_iload_n C dX9_ofDoor_40 rfl ?_
      obtain ⟨q3, hq3, h⟩ := ab_bind h
      refine ab_inv1 C dX9_ofDoor_41 mlX9_153 yvX7_saidOf rkC_1 ⟨_, _, rfl⟩ mmC_1 (tX7_saidOf l _ _ hq3) (Nat.le_of_ble_eq_true rfl) (Nat.le_of_ble_eq_true rfl) rfl (Nat.le_of_ble_eq_true rfl) ?_
      obtain rfl := Option.some.inj h
      exact ab_iret C dX9_ofDoor_44
    · replace h := ab_pos hc2 h
      refine ab_aload_n C dX9_ofDoor_19 rfl ?_
      refine ab_getR C dX9_ofDoor_20 flX9_19 rkC_0 rfl mmC_0 ?_
      refine ab_iload_n C dX9_ofDoor_23 rfl ?_
      obtain ⟨q4, hq4, h⟩ := ab_bind h
      refine ab_inv1 C dX9_ofDoor_24 mlX9_150 yvX4_isOpen rkC_5 ⟨_, _, rfl⟩ mmC_5 (tX4_isOpen l _ _ hq4) (Nat.le_of_ble_eq_true rfl) (Nat.le_of_ble_eq_true rfl) rfl (Nat.le_of_ble_eq_true rfl) ?_
      refine ab_if_eq C (tgt := 34) dX9_ofDoor_27 (by decide) (fun hc5 => ?_) (fun hc5 => ?_)
      · replace h := ab_pos hc5 h
        refine ab_iconst C dX9_ofDoor_34 (v := 0) rfl ?_
        refine ab_weak (lv' := [none, none, none]) ⟨.inl rfl, ⟨.inl rfl, ⟨.inl rfl, trivial⟩⟩⟩ ?_
        exact gX9_ofDoor_b35 C _ _ h
      · replace h := ab_neg hc5 h
        refine ab_iconst C dX9_ofDoor_30 (v := 1) rfl ?_
        refine ab_goto C (tgt := 35) dX9_ofDoor_31 (by decide) ?_
        refine ab_weak (lv' := [none, none, none]) ⟨.inl rfl, ⟨.inl rfl, ⟨.inl rfl, trivial⟩⟩⟩ ?_
        exact gX9_ofDoor_b35 C _ _ h
  · replace h := ab_pos hc1 h
    refine ab_aload_n C dX9_ofDoor_4 rfl ?_
    refine ab_getR C dX9_ofDoor_5 flX9_10 rkC_0 rfl mmC_0 ?_
    refine ab_iload_n C dX9_ofDoor_8 rfl ?_
    refine ab_iconst C dX9_ofDoor_9 (v := 0) rfl ?_
    obtain ⟨q6, hq6, h⟩ := ab_bind h
    refine ab_inv1 C dX9_ofDoor_10 mlX9_122 yvX7_told rkC_1 ⟨_, _, rfl⟩ mmC_1 (tX7_told l _ _ _ hq6) (Nat.le_of_ble_eq_true rfl) (Nat.le_of_ble_eq_true rfl) rfl (Nat.le_of_ble_eq_true rfl) ?_
    obtain rfl := Option.some.inj h
    exact ab_iret C dX9_ofDoor_13
end
def fX9_of_b59 (σ : ab_S) : Option Int32 := some ((-2000000000))
def fX9_of_b87 (t0 : Int32) (σ : ab_S) : Option Int32 := some t0
def fX9_of_b44 (v1 : Int32) (v2 : Int32) (σ : ab_S) : Option Int32 := (if v1 < 0 then fX9_of_b59 σ else (if v1 < (σ.1 5 0 3) then (if v2 = 10 then (fX4_openedIn v1 σ).bind fun q5 => fX9_of_b87 q5 σ else (fX4_chosenIn v1 σ).bind fun q4 => fX9_of_b87 q4 σ) else fX9_of_b59 σ))
def fX9_of_b102 (t0 : Int32) (σ : ab_S) : Option Int32 := some t0
def fX9_of_b32 (v1 : Int32) (v2 : Int32) (σ : ab_S) : Option Int32 := (if v2 = 10 then fX9_of_b44 v1 v2 σ else (if v2 = 11 then fX9_of_b44 v1 v2 σ else (if v1 = 0 then (fX9_ofAll v2 σ).bind fun q4 => fX9_of_b102 q4 σ else fX9_of_b102 ((-2000000000)) σ)))
def fX9_of_b31 (t0 : Int32) (σ : ab_S) : Option Int32 := some t0
def fX9_of (x1 : Int32) (x2 : Int32) (σ : ab_S) : Option Int32 := (if x2 < 0 then fX9_of_b32 x1 x2 σ else (if 2 < x2 then fX9_of_b32 x1 x2 σ else (fX7_has x1 σ).bind fun q3 => (if q3 = 0 then fX9_of_b31 ((-2000000000)) σ else (fX9_ofDoor x1 x2 σ).bind fun q5 => fX9_of_b31 q5 σ)))
section
variable {p : Program} {l : Launch} {e : Env} {s : State} {m : MethodId} {args : Array Value} {below : List Frame} {meth : Method} {c : Code} {D : va_G} {cA : Nat → ClassId} {ad : Nat → Nat → Nat}
set_option maxRecDepth 100000 in
set_option maxHeartbeats 4000000 in
theorem gX9_of_b59 {R : Int32} (C : ab_C yC p s m args meth c D cA ad cX9_of 3 RX9 (some .int)) (σ : ab_S) (h : fX9_of_b59 σ = some R) : ab_G yC p l e s m args below meth c D cA ad 3 3 (some (.inl R)) σ 59 [none, none, none] [] σ := by
  refine ab_ldc C dX9_of_59 cwX9_137 ?_
  obtain rfl := Option.some.inj h
  exact ab_iret C dX9_of_61
set_option maxRecDepth 100000 in
set_option maxHeartbeats 4000000 in
theorem gX9_of_b87 {R : Int32} (C : ab_C yC p s m args meth c D cA ad cX9_of 3 RX9 (some .int)) (σ : ab_S) (t0 : Int32) (h : fX9_of_b87 t0 σ = some R) : ab_G yC p l e s m args below meth c D cA ad 3 3 (some (.inl R)) σ 87 [none, none, none] [.inl t0] σ := by
  obtain rfl := Option.some.inj h
  exact ab_iret C dX9_of_87
set_option maxRecDepth 100000 in
set_option maxHeartbeats 4000000 in
theorem gX9_of_b44 {R : Int32} (C : ab_C yC p s m args meth c D cA ad cX9_of 3 RX9 (some .int)) (σ : ab_S) (v1 : Int32) (v2 : Int32) (h : fX9_of_b44 v1 v2 σ = some R) : ab_G yC p l e s m args below meth c D cA ad 3 3 (some (.inl R)) σ 44 [some (.inr (.inr (0, 0))), some (.inl v1), some (.inl v2)] [] σ := by
  refine ab_iload_n C dX9_of_44 rfl ?_
  refine ab_if_lt C (tgt := 59) dX9_of_45 (by decide) (fun hc1 => ?_) (fun hc1 => ?_)
  · replace h := ab_pos hc1 h
    refine ab_weak (lv' := [none, none, none]) ⟨.inl rfl, ⟨.inl rfl, ⟨.inl rfl, trivial⟩⟩⟩ ?_
    exact gX9_of_b59 C _ h
  · replace h := ab_neg hc1 h
    refine ab_iload_n C dX9_of_48 rfl ?_
    refine ab_aload_n C dX9_of_49 rfl ?_
    refine ab_getR C dX9_of_50 flX9_19 rkC_0 rfl mmC_0 ?_
    refine ab_getI C dX9_of_53 flX9_138 rkC_5 rfl mmC_5 ?_
    refine ab_icmp_lt C (tgt := 62) dX9_of_56 (by decide) (fun hc2 => ?_) (fun hc2 => ?_)
    · replace h := ab_pos hc2 h
      refine ab_iload_n C dX9_of_62 rfl ?_
      refine ab_bipush C dX9_of_63 (v := 10) rfl ?_
      refine ab_icmp_ne C (tgt := 79) dX9_of_65 (by decide) (fun hc3 => ?_) (fun hc3 => ?_)
      · replace h := ab_neg hc3 h
        refine ab_aload_n C dX9_of_79 rfl ?_
        refine ab_getR C dX9_of_80 flX9_19 rkC_0 rfl mmC_0 ?_
        refine ab_iload_n C dX9_of_83 rfl ?_
        obtain ⟨q4, hq4, h⟩ := ab_bind h
        refine ab_inv1 C dX9_of_84 mlX9_144 yvX4_chosenIn rkC_5 ⟨_, _, rfl⟩ mmC_5 (tX4_chosenIn l _ _ hq4) (Nat.le_of_ble_eq_true rfl) (Nat.le_of_ble_eq_true rfl) rfl (Nat.le_of_ble_eq_true rfl) ?_
        refine ab_weak (lv' := [none, none, none]) ⟨.inl rfl, ⟨.inl rfl, ⟨.inl rfl, trivial⟩⟩⟩ ?_
        exact gX9_of_b87 C _ _ h
      · replace h := ab_pos hc3 h
        refine ab_aload_n C dX9_of_68 rfl ?_
        refine ab_getR C dX9_of_69 flX9_19 rkC_0 rfl mmC_0 ?_
        refine ab_iload_n C dX9_of_72 rfl ?_
        obtain ⟨q5, hq5, h⟩ := ab_bind h
        refine ab_inv1 C dX9_of_73 mlX9_140 yvX4_openedIn rkC_5 ⟨_, _, rfl⟩ mmC_5 (tX4_openedIn l _ _ hq5) (Nat.le_of_ble_eq_true rfl) (Nat.le_of_ble_eq_true rfl) rfl (Nat.le_of_ble_eq_true rfl) ?_
        refine ab_goto C (tgt := 87) dX9_of_76 (by decide) ?_
        refine ab_weak (lv' := [none, none, none]) ⟨.inl rfl, ⟨.inl rfl, ⟨.inl rfl, trivial⟩⟩⟩ ?_
        exact gX9_of_b87 C _ _ h
    · replace h := ab_neg hc2 h
      refine ab_weak (lv' := [none, none, none]) ⟨.inl rfl, ⟨.inl rfl, ⟨.inl rfl, trivial⟩⟩⟩ ?_
      exact gX9_of_b59 C _ h
set_option maxRecDepth 100000 in
set_option maxHeartbeats 4000000 in
theorem gX9_of_b102 {R : Int32} (C : ab_C yC p s m args meth c D cA ad cX9_of 3 RX9 (some .int)) (σ : ab_S) (t0 : Int32) (h : fX9_of_b102 t0 σ = some R) : ab_G yC p l e s m args below meth c D cA ad 3 3 (some (.inl R)) σ 102 [none, none, none] [.inl t0] σ := by
  obtain rfl := Option.some.inj h
  exact ab_iret C dX9_of_102
set_option maxRecDepth 100000 in
set_option maxHeartbeats 4000000 in
theorem gX9_of_b32 {R : Int32} (C : ab_C yC p s m args meth c D cA ad cX9_of 3 RX9 (some .int)) (σ : ab_S) (v1 : Int32) (v2 : Int32) (h : fX9_of_b32 v1 v2 σ = some R) : ab_G yC p l e s m args below meth c D cA ad 3 3 (some (.inl R)) σ 32 [some (.inr (.inr (0, 0))), some (.inl v1), some (.inl v2)] [] σ := by
  refine ab_iload_n C dX9_of_32 rfl ?_
  refine ab_bipush C dX9_of_33 (v := 10) rfl ?_
  refine ab_icmp_eq C (tgt := 44) dX9_of_35 (by decide) (fun hc1 => ?_) (fun hc1 => ?_)
  · replace h := ab_pos hc1 h
    refine ab_weak (lv' := [some (.inr (.inr (0, 0))), some (.inl v1), some (.inl v2)]) ⟨.inr rfl, ⟨.inr rfl, ⟨.inr rfl, trivial⟩⟩⟩ ?_
    exact gX9_of_b44 C _ _ _ h
  · replace h := ab_neg hc1 h
    refine ab_iload_n C dX9_of_38 rfl ?_
    refine ab_bipush C dX9_of_39 (v := 11) rfl ?_
    refine ab_icmp_ne C (tgt := 88) dX9_of_41 (by decide) (fun hc2 => ?_) (fun hc2 => ?_)
    · replace h := ab_neg hc2 h
      refine ab_iload_n C dX9_of_88 rfl ?_
      refine ab_if_ne C (tgt := 100) dX9_of_89 (by decide) (fun hc3 => ?_) (fun hc3 => ?_)
      · replace h := ab_neg hc3 h
        refine ab_ldc C dX9_of_100 cwX9_137 ?_
        refine ab_weak (lv' := [none, none, none]) ⟨.inl rfl, ⟨.inl rfl, ⟨.inl rfl, trivial⟩⟩⟩ ?_
        exact gX9_of_b102 C _ _ h
      · replace h := ab_pos hc3 h
        refine ab_aload_n C dX9_of_92 rfl ?_
        refine ab_iload_n C dX9_of_93 rfl ?_
        obtain ⟨q4, hq4, h⟩ := ab_bind h
        refine ab_inv1 C dX9_of_94 mlX9_147 yvX9_ofAll rkC_0 ⟨_, _, rfl⟩ mmC_0 (tX9_ofAll l _ _ hq4) (Nat.le_of_ble_eq_true rfl) (Nat.le_of_ble_eq_true rfl) rfl (Nat.le_of_ble_eq_true rfl) ?_
        refine ab_goto C (tgt := 102) dX9_of_97 (by decide) ?_
        refine ab_weak (lv' := [none, none, none]) ⟨.inl rfl, ⟨.inl rfl, ⟨.inl rfl, trivial⟩⟩⟩ ?_
        exact gX9_of_b102 C _ _ h
    · replace h := ab_pos hc2 h
      refine ab_weak (lv' := [some (.inr (.inr (0, 0))), some (.inl v1), some (.inl v2)]) ⟨.inr rfl, ⟨.inr rfl, ⟨.inr rfl, trivial⟩⟩⟩ ?_
      exact gX9_of_b44 C _ _ _ h
set_option maxRecDepth 100000 in
set_option maxHeartbeats 4000000 in
theorem gX9_of_b31 {R : Int32} (C : ab_C yC p s m args meth c D cA ad cX9_of 3 RX9 (some .int)) (σ : ab_S) (t0 : Int32) (h : fX9_of_b31 t0 σ = some R) : ab_G yC p l e s m args below meth c D cA ad 3 3 (some (.inl R)) σ 31 [none, none, none] [.inl t0] σ := by
  obtain rfl := Option.some.inj h
  exact ab_iret C dX9_of_31
set_option maxRecDepth 100000 in
set_option maxHeartbeats 4000000 in
theorem tX9_of (l : Launch) (x1 : Int32) (x2 : Int32) (σ : ab_S) {R : Int32} (h : fX9_of x1 x2 σ = some R) : ab_M l yC yX9_of cX9_of 3 (some .int) 3 [.inr (.inr (0, 0)), .inl x1, .inl x2] σ (some (.inl R)) σ := by
  refine ab_M_intro ndC (by decide) (Nat.le_of_ble_eq_true rfl) ?_
  intro p e s m args below meth c D cA ad C
  have C : ab_C yC p s m args meth c D cA ad cX9_of 3 RX9 (some .int) := C
  refine ab_weak (lv' := [some (.inr (.inr (0, 0))), some (.inl x1), some (.inl x2)]) ⟨.inr rfl, ⟨.inr rfl, ⟨.inr rfl, trivial⟩⟩⟩ ?_
  refine ab_iload_n C dX9_of_0 rfl ?_
  refine ab_if_lt C (tgt := 32) dX9_of_1 (by decide) (fun hc1 => ?_) (fun hc1 => ?_)
  · replace h := ab_pos hc1 h
    refine ab_weak (lv' := [some (.inr (.inr (0, 0))), some (.inl x1), some (.inl x2)]) ⟨.inr rfl, ⟨.inr rfl, ⟨.inr rfl, trivial⟩⟩⟩ ?_
    exact gX9_of_b32 C _ _ _ h
  · replace h := ab_neg hc1 h
    refine ab_iload_n C dX9_of_4 rfl ?_
    refine ab_iconst C dX9_of_5 (v := 2) rfl ?_
    refine ab_icmp_gt C (tgt := 32) dX9_of_6 (by decide) (fun hc2 => ?_) (fun hc2 => ?_)
    · replace h := ab_pos hc2 h
      refine ab_weak (lv' := [some (.inr (.inr (0, 0))), some (.inl x1), some (.inl x2)]) ⟨.inr rfl, ⟨.inr rfl, ⟨.inr rfl, trivial⟩⟩⟩ ?_
      exact gX9_of_b32 C _ _ _ h
    · replace h := ab_neg hc2 h
      refine ab_aload_n C dX9_of_9 rfl ?_
      refine ab_getR C dX9_of_10 flX9_10 rkC_0 rfl mmC_0 ?_
      refine ab_iload_n C dX9_of_13 rfl ?_
      obtain ⟨q3, hq3, h⟩ := ab_bind h
      refine ab_inv1 C dX9_of_14 mlX9_103 yvX7_has rkC_1 ⟨_, _, rfl⟩ mmC_1 (tX7_has l _ _ hq3) (Nat.le_of_ble_eq_true rfl) (Nat.le_of_ble_eq_true rfl) rfl (Nat.le_of_ble_eq_true rfl) ?_
      refine ab_if_eq C (tgt := 29) dX9_of_17 (by decide) (fun hc4 => ?_) (fun hc4 => ?_)
      · replace h := ab_pos hc4 h
        refine ab_ldc C dX9_of_29 cwX9_137 ?_
        refine ab_weak (lv' := [none, none, none]) ⟨.inl rfl, ⟨.inl rfl, ⟨.inl rfl, trivial⟩⟩⟩ ?_
        exact gX9_of_b31 C _ _ h
      · replace h := ab_neg hc4 h
        refine ab_aload_n C dX9_of_20 rfl ?_
        refine ab_iload_n C dX9_of_21 rfl ?_
        refine ab_iload_n C dX9_of_22 rfl ?_
        obtain ⟨q5, hq5, h⟩ := ab_bind h
        refine ab_inv1 C dX9_of_23 mlX9_134 yvX9_ofDoor rkC_0 ⟨_, _, rfl⟩ mmC_0 (tX9_ofDoor l _ _ _ hq5) (Nat.le_of_ble_eq_true rfl) (Nat.le_of_ble_eq_true rfl) rfl (Nat.le_of_ble_eq_true rfl) ?_
        refine ab_goto C (tgt := 31) dX9_of_26 (by decide) ?_
        refine ab_weak (lv' := [none, none, none]) ⟨.inl rfl, ⟨.inl rfl, ⟨.inl rfl, trivial⟩⟩⟩ ?_
        exact gX9_of_b31 C _ _ h
end
def fX9_opened (x1 : Int32) (σ : ab_S) : Option (Int32 × ab_S) := (fX9_mayOpen x1 σ).bind fun q1 => (if q1 = 0 then some ((-1), σ) else (if (σ.1 5 0 3) < 3 then (fX4_add x1 σ).bind fun q4 => some (q4.1, q4.2) else some ((-3), σ)))
section
variable {p : Program} {l : Launch} {e : Env} {s : State} {m : MethodId} {args : Array Value} {below : List Frame} {meth : Method} {c : Code} {D : va_G} {cA : Nat → ClassId} {ad : Nat → Nat → Nat}
set_option maxRecDepth 100000 in
set_option maxHeartbeats 4000000 in
theorem tX9_opened (l : Launch) (x1 : Int32) (σ : ab_S) {R : (Int32 × ab_S)} (h : fX9_opened x1 σ = some R) : ab_M l yC yX9_opened cX9_opened 2 (some .int) 3 [.inr (.inr (0, 0)), .inl x1] σ (some (.inl R.1)) R.2 := by
  refine ab_M_intro ndC (by decide) (Nat.le_of_ble_eq_true rfl) ?_
  intro p e s m args below meth c D cA ad C
  have C : ab_C yC p s m args meth c D cA ad cX9_opened 2 RX9 (some .int) := C
  refine ab_weak (lv' := [some (.inr (.inr (0, 0))), some (.inl x1)]) ⟨.inr rfl, ⟨.inr rfl, trivial⟩⟩ ?_
  refine ab_aload_n C dX9_opened_0 rfl ?_
  refine ab_iload_n C dX9_opened_1 rfl ?_
  obtain ⟨q1, hq1, h⟩ := ab_bind h
  refine ab_inv1 C dX9_opened_2 mlX9_188 yvX9_mayOpen rkC_0 ⟨_, _, rfl⟩ mmC_0 (tX9_mayOpen l _ _ hq1) (Nat.le_of_ble_eq_true rfl) (Nat.le_of_ble_eq_true rfl) rfl (Nat.le_of_ble_eq_true rfl) ?_
  refine ab_if_ne C (tgt := 10) dX9_opened_5 (by decide) (fun hc2 => ?_) (fun hc2 => ?_)
  · replace h := ab_neg hc2 h
    refine ab_aload_n C dX9_opened_10 rfl ?_
    refine ab_getR C dX9_opened_11 flX9_19 rkC_0 rfl mmC_0 ?_
    refine ab_getI C dX9_opened_14 flX9_138 rkC_5 rfl mmC_5 ?_
    refine ab_iconst C dX9_opened_17 (v := 3) rfl ?_
    refine ab_icmp_lt C (tgt := 24) dX9_opened_18 (by decide) (fun hc3 => ?_) (fun hc3 => ?_)
    · replace h := ab_pos hc3 h
      refine ab_aload_n C dX9_opened_24 rfl ?_
      refine ab_getR C dX9_opened_25 flX9_19 rkC_0 rfl mmC_0 ?_
      refine ab_iload_n C dX9_opened_28 rfl ?_
      obtain ⟨q4, hq4, h⟩ := ab_bind h
      refine ab_inv1 C dX9_opened_29 mlX9_191 yvX4_add rkC_5 ⟨_, _, rfl⟩ mmC_5 (tX4_add l _ _ hq4) (Nat.le_of_ble_eq_true rfl) (Nat.le_of_ble_eq_true rfl) rfl (Nat.le_of_ble_eq_true rfl) ?_
      obtain rfl := Option.some.inj h
      exact ab_iret C dX9_opened_32
    · replace h := ab_neg hc3 h
      refine ab_bipush C dX9_opened_21 (v := (-3)) rfl ?_
      obtain rfl := Option.some.inj h
      exact ab_iret C dX9_opened_23
  · replace h := ab_pos hc2 h
    refine ab_iconst C dX9_opened_8 (v := (-1)) rfl ?_
    obtain rfl := Option.some.inj h
    exact ab_iret C dX9_opened_9
end
def fX9_opens_b32 (σ : ab_S) : Option (Int32 × ab_S) := some ((-1), σ)
def fX9_opens_b56 (σ : ab_S) : Option (Int32 × ab_S) := some ((-5), σ)
def fX9_opens (x1 : Int32) (σ : ab_S) : Option (Int32 × ab_S) := (fX7_has (x1 / 10) σ).bind fun q1 => (if q1 = 0 then fX9_opens_b32 σ else (fX7_has (ab_mod x1 10) σ).bind fun q3 => (if q3 = 0 then fX9_opens_b32 σ else (if (x1 / 10) = (σ.1 5 0 4) then fX9_opens_b56 σ else (fX4_isOpen (x1 / 10) σ).bind fun q6 => (if q6 = 0 then (fX4_openDoors σ).bind fun q8 => (fX1_twelfths (σ.1 5 0 3) q8 (σ.1 5 0 4) (x1 / 10) (ab_mod x1 10) σ).bind fun q9 => some (q9.1, q9.2) else fX9_opens_b56 σ))))
section
variable {p : Program} {l : Launch} {e : Env} {s : State} {m : MethodId} {args : Array Value} {below : List Frame} {meth : Method} {c : Code} {D : va_G} {cA : Nat → ClassId} {ad : Nat → Nat → Nat}
set_option maxRecDepth 100000 in
set_option maxHeartbeats 4000000 in
theorem gX9_opens_b32 {R : (Int32 × ab_S)} (C : ab_C yC p s m args meth c D cA ad cX9_opens 4 RX9 (some .int)) (σ : ab_S) (h : fX9_opens_b32 σ = some R) : ab_G yC p l e s m args below meth c D cA ad 4 4 (some (.inl R.1)) R.2 32 [none, none, none, none] [] σ := by
  refine ab_iconst C dX9_opens_32 (v := (-1)) rfl ?_
  obtain rfl := Option.some.inj h
  exact ab_iret C dX9_opens_33
set_option maxRecDepth 100000 in
set_option maxHeartbeats 4000000 in
theorem gX9_opens_b56 {R : (Int32 × ab_S)} (C : ab_C yC p s m args meth c D cA ad cX9_opens 4 RX9 (some .int)) (σ : ab_S) (h : fX9_opens_b56 σ = some R) : ab_G yC p l e s m args below meth c D cA ad 4 4 (some (.inl R.1)) R.2 56 [none, none, none, none] [] σ := by
  refine ab_bipush C dX9_opens_56 (v := (-5)) rfl ?_
  obtain rfl := Option.some.inj h
  exact ab_iret C dX9_opens_58
set_option maxRecDepth 100000 in
set_option maxHeartbeats 4000000 in
theorem tX9_opens (l : Launch) (x1 : Int32) (σ : ab_S) {R : (Int32 × ab_S)} (h : fX9_opens x1 σ = some R) : ab_M l yC yX9_opens cX9_opens 4 (some .int) 4 [.inr (.inr (0, 0)), .inl x1] σ (some (.inl R.1)) R.2 := by
  refine ab_M_intro ndC (by decide) (Nat.le_of_ble_eq_true rfl) ?_
  intro p e s m args below meth c D cA ad C
  have C : ab_C yC p s m args meth c D cA ad cX9_opens 4 RX9 (some .int) := C
  refine ab_weak (lv' := [some (.inr (.inr (0, 0))), some (.inl x1), none, none]) ⟨.inr rfl, ⟨.inr rfl, ⟨.inl rfl, ⟨.inl rfl, trivial⟩⟩⟩⟩ ?_
  refine ab_iload_n C dX9_opens_0 rfl ?_
  refine ab_bipush C dX9_opens_1 (v := 10) rfl ?_
  refine ab_idiv C dX9_opens_3 (by decide) ?_
  refine ab_istore_n C dX9_opens_4 (Nat.le_of_ble_eq_true rfl) ?_
  refine ab_iload_n C dX9_opens_5 rfl ?_
  refine ab_bipush C dX9_opens_6 (v := 10) rfl ?_
  refine ab_irem C dX9_opens_8 (by decide) ?_
  refine ab_istore_n C dX9_opens_9 (Nat.le_of_ble_eq_true rfl) ?_
  refine ab_aload_n C dX9_opens_10 rfl ?_
  refine ab_getR C dX9_opens_11 flX9_10 rkC_0 rfl mmC_0 ?_
  refine ab_iload_n C dX9_opens_14 rfl ?_
  obtain ⟨q1, hq1, h⟩ := ab_bind h
  refine ab_inv1 C dX9_opens_15 mlX9_103 yvX7_has rkC_1 ⟨_, _, rfl⟩ mmC_1 (tX7_has l _ _ hq1) (Nat.le_of_ble_eq_true rfl) (Nat.le_of_ble_eq_true rfl) rfl (Nat.le_of_ble_eq_true rfl) ?_
  refine ab_if_eq C (tgt := 32) dX9_opens_18 (by decide) (fun hc2 => ?_) (fun hc2 => ?_)
  · replace h := ab_pos hc2 h
    refine ab_weak (lv' := [none, none, none, none]) ⟨.inl rfl, ⟨.inl rfl, ⟨.inl rfl, ⟨.inl rfl, trivial⟩⟩⟩⟩ ?_
    exact gX9_opens_b32 C _ h
  · replace h := ab_neg hc2 h
    refine ab_aload_n C dX9_opens_21 rfl ?_
    refine ab_getR C dX9_opens_22 flX9_10 rkC_0 rfl mmC_0 ?_
    refine ab_iload_n C dX9_opens_25 rfl ?_
    obtain ⟨q3, hq3, h⟩ := ab_bind h
    refine ab_inv1 C dX9_opens_26 mlX9_103 yvX7_has rkC_1 ⟨_, _, rfl⟩ mmC_1 (tX7_has l _ _ hq3) (Nat.le_of_ble_eq_true rfl) (Nat.le_of_ble_eq_true rfl) rfl (Nat.le_of_ble_eq_true rfl) ?_
    refine ab_if_ne C (tgt := 34) dX9_opens_29 (by decide) (fun hc4 => ?_) (fun hc4 => ?_)
    · replace h := ab_neg hc4 h
      refine ab_iload_n C dX9_opens_34 rfl ?_
      refine ab_aload_n C dX9_opens_35 rfl ?_
      refine ab_getR C dX9_opens_36 flX9_19 rkC_0 rfl mmC_0 ?_
      refine ab_getI C dX9_opens_39 flX9_162 rkC_5 rfl mmC_5 ?_
      refine ab_icmp_eq C (tgt := 56) dX9_opens_42 (by decide) (fun hc5 => ?_) (fun hc5 => ?_)
      · replace h := ab_pos hc5 h
        refine ab_weak (lv' := [none, none, none, none]) ⟨.inl rfl, ⟨.inl rfl, ⟨.inl rfl, ⟨.inl rfl, trivial⟩⟩⟩⟩ ?_
        exact gX9_opens_b56 C _ h
      · replace h := ab_neg hc5 h
        refine ab_aload_n C dX9_opens_45 rfl ?_
        refine ab_getR C dX9_opens_46 flX9_19 rkC_0 rfl mmC_0 ?_
        refine ab_iload_n C dX9_opens_49 rfl ?_
        obtain ⟨q6, hq6, h⟩ := ab_bind h
        refine ab_inv1 C dX9_opens_50 mlX9_150 yvX4_isOpen rkC_5 ⟨_, _, rfl⟩ mmC_5 (tX4_isOpen l _ _ hq6) (Nat.le_of_ble_eq_true rfl) (Nat.le_of_ble_eq_true rfl) rfl (Nat.le_of_ble_eq_true rfl) ?_
        refine ab_if_eq C (tgt := 59) dX9_opens_53 (by decide) (fun hc7 => ?_) (fun hc7 => ?_)
        · replace h := ab_pos hc7 h
          refine ab_aload_n C dX9_opens_59 rfl ?_
          refine ab_getR C dX9_opens_60 flX9_49 rkC_0 rfl mmC_0 ?_
          refine ab_aload_n C dX9_opens_63 rfl ?_
          refine ab_getR C dX9_opens_64 flX9_19 rkC_0 rfl mmC_0 ?_
          refine ab_getI C dX9_opens_67 flX9_138 rkC_5 rfl mmC_5 ?_
          refine ab_aload_n C dX9_opens_70 rfl ?_
          refine ab_getR C dX9_opens_71 flX9_19 rkC_0 rfl mmC_0 ?_
          obtain ⟨q8, hq8, h⟩ := ab_bind h
          refine ab_inv1 C dX9_opens_74 mlX9_181 yvX4_openDoors rkC_5 ⟨_, _, rfl⟩ mmC_5 (tX4_openDoors l _ hq8) (Nat.le_of_ble_eq_true rfl) (Nat.le_of_ble_eq_true rfl) rfl (Nat.le_of_ble_eq_true rfl) ?_
          refine ab_aload_n C dX9_opens_77 rfl ?_
          refine ab_getR C dX9_opens_78 flX9_19 rkC_0 rfl mmC_0 ?_
          refine ab_getI C dX9_opens_81 flX9_162 rkC_5 rfl mmC_5 ?_
          refine ab_iload_n C dX9_opens_84 rfl ?_
          refine ab_iload_n C dX9_opens_85 rfl ?_
          obtain ⟨q9, hq9, h⟩ := ab_bind h
          refine ab_inv1 C dX9_opens_86 mlX9_184 yvX1_twelfths rkC_21 ⟨_, _, rfl⟩ mmC_21 (tX1_twelfths l _ _ _ _ _ _ hq9) (Nat.le_of_ble_eq_true rfl) (Nat.le_of_ble_eq_true rfl) rfl (Nat.le_of_ble_eq_true rfl) ?_
          obtain rfl := Option.some.inj h
          exact ab_iret C dX9_opens_89
        · replace h := ab_neg hc7 h
          refine ab_weak (lv' := [none, none, none, none]) ⟨.inl rfl, ⟨.inl rfl, ⟨.inl rfl, ⟨.inl rfl, trivial⟩⟩⟩⟩ ?_
          exact gX9_opens_b56 C _ h
    · replace h := ab_pos hc4 h
      refine ab_weak (lv' := [none, none, none, none]) ⟨.inl rfl, ⟨.inl rfl, ⟨.inl rfl, ⟨.inl rfl, trivial⟩⟩⟩⟩ ?_
      exact gX9_opens_b32 C _ h
end
def fX9_partner_b16 (σ : ab_S) : Option (Int64 × ab_S) := some ((-9223372036854775808), σ)
def fX9_partner_b60 (v2 : Int32) (v3 : Int32) (t0 : Int64) (σ : ab_S) : Option (Int64 × ab_S) := (fX9_lowest t0 ((v3 : Int32).toInt64) v2).bind fun q1 => some (q1, σ)
def fX9_partner (x1 : Int32) (x2 : Int32) (σ : ab_S) : Option (Int64 × ab_S) := (if x1 < 0 then fX9_partner_b16 σ else (if 5 < x1 then fX9_partner_b16 σ else (fX9_isPart x2).bind fun q3 => (if q3 = 0 then fX9_partner_b16 σ else (fX7_together σ).bind fun q5 => (if q5 = 0 then some ((-2), σ) else (if x1 = 0 then (fX7_wonByCode σ).bind fun q9 => fX9_partner_b60 x2 q5 ((q9 : Int32).toInt64) σ else (fX7_greatestTogether x1 σ).bind fun q8 => fX9_partner_b60 x2 q5 ((q8.1 : Int32).toInt64) q8.2)))))
section
variable {p : Program} {l : Launch} {e : Env} {s : State} {m : MethodId} {args : Array Value} {below : List Frame} {meth : Method} {c : Code} {D : va_G} {cA : Nat → ClassId} {ad : Nat → Nat → Nat}
set_option maxRecDepth 100000 in
set_option maxHeartbeats 4000000 in
theorem gX9_partner_b16 {R : (Int64 × ab_S)} (C : ab_C yC p s m args meth c D cA ad cX9_partner 4 RX9 (some .long)) (σ : ab_S) (h : fX9_partner_b16 σ = some R) : ab_G yC p l e s m args below meth c D cA ad 4 3 (some (.inr (.inl R.1))) R.2 16 [none, none, none, none] [] σ := by
  refine ab_ldc2 C dX9_partner_16 cwX9_199 ?_
  obtain rfl := Option.some.inj h
  exact ab_lret C dX9_partner_19
set_option maxRecDepth 100000 in
set_option maxHeartbeats 4000000 in
theorem gX9_partner_b60 {R : (Int64 × ab_S)} (C : ab_C yC p s m args meth c D cA ad cX9_partner 4 RX9 (some .long)) (v2 : Int32) (v3 : Int32) (t0 : Int64) (σ : ab_S) (h : fX9_partner_b60 v2 v3 t0 σ = some R) : ab_G yC p l e s m args below meth c D cA ad 4 3 (some (.inr (.inl R.1))) R.2 60 [none, none, some (.inl v2), some (.inl v3)] [.inr (.inl t0)] σ := by
  refine ab_iload_n C dX9_partner_60 rfl ?_
  refine ab_i2l C dX9_partner_61  ?_
  refine ab_iload_n C dX9_partner_62 rfl ?_
  obtain ⟨q1, hq1, h⟩ := ab_bind h
  refine ab_invS1 C dX9_partner_63 mlX9_211 ysX9_lowest (tX9_lowest l _ _ _ _ hq1) (Nat.le_of_ble_eq_true rfl) (Nat.le_of_ble_eq_true rfl) rfl (Nat.le_of_ble_eq_true rfl) ?_
  obtain rfl := Option.some.inj h
  exact ab_lret C dX9_partner_66
set_option maxRecDepth 100000 in
set_option maxHeartbeats 4000000 in
theorem tX9_partner (l : Launch) (x1 : Int32) (x2 : Int32) (σ : ab_S) {R : (Int64 × ab_S)} (h : fX9_partner x1 x2 σ = some R) : ab_M l yC yX9_partner cX9_partner 4 (some .long) 3 [.inr (.inr (0, 0)), .inl x1, .inl x2] σ (some (.inr (.inl R.1))) R.2 := by
  refine ab_M_intro ndC (by decide) (Nat.le_of_ble_eq_true rfl) ?_
  intro p e s m args below meth c D cA ad C
  have C : ab_C yC p s m args meth c D cA ad cX9_partner 4 RX9 (some .long) := C
  refine ab_weak (lv' := [some (.inr (.inr (0, 0))), some (.inl x1), some (.inl x2), none]) ⟨.inr rfl, ⟨.inr rfl, ⟨.inr rfl, ⟨.inl rfl, trivial⟩⟩⟩⟩ ?_
  refine ab_iload_n C dX9_partner_0 rfl ?_
  refine ab_if_lt C (tgt := 16) dX9_partner_1 (by decide) (fun hc1 => ?_) (fun hc1 => ?_)
  · replace h := ab_pos hc1 h
    refine ab_weak (lv' := [none, none, none, none]) ⟨.inl rfl, ⟨.inl rfl, ⟨.inl rfl, ⟨.inl rfl, trivial⟩⟩⟩⟩ ?_
    exact gX9_partner_b16 C _ h
  · replace h := ab_neg hc1 h
    refine ab_iload_n C dX9_partner_4 rfl ?_
    refine ab_iconst C dX9_partner_5 (v := 5) rfl ?_
    refine ab_icmp_gt C (tgt := 16) dX9_partner_6 (by decide) (fun hc2 => ?_) (fun hc2 => ?_)
    · replace h := ab_pos hc2 h
      refine ab_weak (lv' := [none, none, none, none]) ⟨.inl rfl, ⟨.inl rfl, ⟨.inl rfl, ⟨.inl rfl, trivial⟩⟩⟩⟩ ?_
      exact gX9_partner_b16 C _ h
    · replace h := ab_neg hc2 h
      refine ab_iload_n C dX9_partner_9 rfl ?_
      obtain ⟨q3, hq3, h⟩ := ab_bind h
      refine ab_invS1 C dX9_partner_10 mlX9_196 ysX9_isPart (tX9_isPart l _ _ hq3) (Nat.le_of_ble_eq_true rfl) (Nat.le_of_ble_eq_true rfl) rfl (Nat.le_of_ble_eq_true rfl) ?_
      refine ab_if_ne C (tgt := 20) dX9_partner_13 (by decide) (fun hc4 => ?_) (fun hc4 => ?_)
      · replace h := ab_neg hc4 h
        refine ab_aload_n C dX9_partner_20 rfl ?_
        refine ab_getR C dX9_partner_21 flX9_10 rkC_0 rfl mmC_0 ?_
        obtain ⟨q5, hq5, h⟩ := ab_bind h
        refine ab_inv1 C dX9_partner_24 mlX9_227 yvX7_together rkC_1 ⟨_, _, rfl⟩ mmC_1 (tX7_together l _ hq5) (Nat.le_of_ble_eq_true rfl) (Nat.le_of_ble_eq_true rfl) rfl (Nat.le_of_ble_eq_true rfl) ?_
        refine ab_istore_n C dX9_partner_27 (Nat.le_of_ble_eq_true rfl) ?_
        refine ab_iload_n C dX9_partner_28 rfl ?_
        refine ab_if_ne C (tgt := 36) dX9_partner_29 (by decide) (fun hc6 => ?_) (fun hc6 => ?_)
        · replace h := ab_neg hc6 h
          refine ab_iload_n C dX9_partner_36 rfl ?_
          refine ab_if_ne C (tgt := 51) dX9_partner_37 (by decide) (fun hc7 => ?_) (fun hc7 => ?_)
          · replace h := ab_neg hc7 h
            refine ab_aload_n C dX9_partner_51 rfl ?_
            refine ab_getR C dX9_partner_52 flX9_10 rkC_0 rfl mmC_0 ?_
            refine ab_iload_n C dX9_partner_55 rfl ?_
            obtain ⟨q8, hq8, h⟩ := ab_bind h
            refine ab_inv1 C dX9_partner_56 mlX9_295 yvX7_greatestTogether rkC_1 ⟨_, _, rfl⟩ mmC_1 (tX7_greatestTogether l _ _ hq8) (Nat.le_of_ble_eq_true rfl) (Nat.le_of_ble_eq_true rfl) rfl (Nat.le_of_ble_eq_true rfl) ?_
            refine ab_i2l C dX9_partner_59  ?_
            refine ab_weak (lv' := [none, none, some (.inl x2), some (.inl q5)]) ⟨.inl rfl, ⟨.inl rfl, ⟨.inr rfl, ⟨.inr rfl, trivial⟩⟩⟩⟩ ?_
            exact gX9_partner_b60 C _ _ _ _ h
          · replace h := ab_pos hc7 h
            refine ab_aload_n C dX9_partner_40 rfl ?_
            refine ab_getR C dX9_partner_41 flX9_10 rkC_0 rfl mmC_0 ?_
            obtain ⟨q9, hq9, h⟩ := ab_bind h
            refine ab_inv1 C dX9_partner_44 mlX9_292 yvX7_wonByCode rkC_1 ⟨_, _, rfl⟩ mmC_1 (tX7_wonByCode l _ hq9) (Nat.le_of_ble_eq_true rfl) (Nat.le_of_ble_eq_true rfl) rfl (Nat.le_of_ble_eq_true rfl) ?_
            refine ab_i2l C dX9_partner_47  ?_
            refine ab_goto C (tgt := 60) dX9_partner_48 (by decide) ?_
            refine ab_weak (lv' := [none, none, some (.inl x2), some (.inl q5)]) ⟨.inl rfl, ⟨.inl rfl, ⟨.inr rfl, ⟨.inr rfl, trivial⟩⟩⟩⟩ ?_
            exact gX9_partner_b60 C _ _ _ _ h
        · replace h := ab_pos hc6 h
          refine ab_ldc2 C dX9_partner_32 cwX9_205 ?_
          obtain rfl := Option.some.inj h
          exact ab_lret C dX9_partner_35
      · replace h := ab_pos hc4 h
        refine ab_weak (lv' := [none, none, none, none]) ⟨.inl rfl, ⟨.inl rfl, ⟨.inl rfl, ⟨.inl rfl, trivial⟩⟩⟩⟩ ?_
        exact gX9_partner_b16 C _ h
end
