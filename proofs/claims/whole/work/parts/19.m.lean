def fX10_gives_b111 (t0 : Int32) (σ : ab_S) : Option (Int32 × ab_S) := some (t0, σ)
def fX10_gives_b20 (t0 : Int32) (σ : ab_S) : Option (Int32 × ab_S) := some (t0, σ)
def fX10_gives (x1 : Int32) (x2 : Int32) (x3 : Int32) (x4 : Int32) (x5 : Int32) (x6 : Int32) (σ : ab_S) : Option (Int32 × ab_S) := (if ab_inb x1 4 = true then (if 0 ≤ (σ.1 10 0 x1.toNatClampNeg) then (if ab_inb 0 6 = true then ab_k (ab_si σ 11 0 ((0 : Int32).toNatClampNeg) x2) fun σ4 => (if ab_inb 1 6 = true then ab_k (ab_si σ4 11 0 ((1 : Int32).toNatClampNeg) x3) fun σ6 => (if ab_inb 2 6 = true then ab_k (ab_si σ6 11 0 ((2 : Int32).toNatClampNeg) x4) fun σ8 => (if ab_inb 3 6 = true then ab_k (ab_si σ8 11 0 ((3 : Int32).toNatClampNeg) (σ8.1 0 0 6)) fun σ10 => (fX10_bitsOf x5).bind fun q11 => (if ab_inb 4 6 = true then ab_k (ab_si σ10 11 0 ((4 : Int32).toNatClampNeg) q11) fun σ13 => (if ab_inb 5 6 = true then ab_k (ab_si σ13 11 0 ((5 : Int32).toNatClampNeg) x6) fun σ15 => (if ab_inb x1 4 = true then (fX10_workOut (120 * x1) (σ15.1 10 0 x1.toNatClampNeg) σ15).bind fun q17 => (if 0 ≤ q17.1 then (if q17.1 ≤ 12 then fX10_gives_b111 q17.1 q17.2 else fX10_gives_b111 12 q17.2) else fX10_gives_b111 0 q17.2) else none) else none) else none) else none) else none) else none) else none) else (if x2 = x3 then fX10_gives_b20 0 σ else fX10_gives_b20 12 σ)) else none)
section
variable {p : Program} {l : Launch} {e : Env} {s : State} {m : MethodId} {args : Array Value} {below : List Frame} {meth : Method} {c : Code} {D : va_G} {cA : Nat → ClassId} {ad : Nat → Nat → Nat}
set_option maxRecDepth 100000 in
set_option maxHeartbeats 4000000 in
theorem gX10_gives_b111 {R : (Int32 × ab_S)} (C : ab_C yM p s m args meth c D cA ad cX10_gives 8 RX10 (some .int)) (t0 : Int32) (σ : ab_S) (h : fX10_gives_b111 t0 σ = some R) : ab_G yM p l e s m args below meth c D cA ad 8 68 (some (.inl R.1)) R.2 111 [none, none, none, none, none, none, none, none] [.inl t0] σ := by
  obtain rfl := Option.some.inj h
  exact ab_iret C dX10_gives_111
set_option maxRecDepth 100000 in
set_option maxHeartbeats 4000000 in
theorem gX10_gives_b20 {R : (Int32 × ab_S)} (C : ab_C yM p s m args meth c D cA ad cX10_gives 8 RX10 (some .int)) (t0 : Int32) (σ : ab_S) (h : fX10_gives_b20 t0 σ = some R) : ab_G yM p l e s m args below meth c D cA ad 8 68 (some (.inl R.1)) R.2 20 [none, none, none, none, none, none, none, none] [.inl t0] σ := by
  obtain rfl := Option.some.inj h
  exact ab_iret C dX10_gives_20
set_option maxRecDepth 100000 in
set_option maxHeartbeats 4000000 in
theorem tX10_gives (l : Launch) (x1 : Int32) (x2 : Int32) (x3 : Int32) (x4 : Int32) (x5 : Int32) (x6 : Int32) (σ : ab_S) {R : (Int32 × ab_S)} (h : fX10_gives x1 x2 x3 x4 x5 x6 σ = some R) : ab_M l yM yX10_gives cX10_gives 8 (some .int) 68 [.inr (.inr (0, 0)), .inl x1, .inl x2, .inl x3, .inl x4, .inl x5, .inl x6] σ (some (.inl R.1)) R.2 := by
  refine ab_M_intro ndM (by decide) (Nat.le_of_ble_eq_true rfl) ?_
  intro p e s m args below meth c D cA ad C
  have C : ab_C yM p s m args meth c D cA ad cX10_gives 8 RX10 (some .int) := C
  refine ab_weak (lv' := [some (.inr (.inr (0, 0))), some (.inl x1), some (.inl x2), some (.inl x3), some (.inl x4), some (.inl x5), some (.inl x6), none]) ⟨.inr rfl, ⟨.inr rfl, ⟨.inr rfl, ⟨.inr rfl, ⟨.inr rfl, ⟨.inr rfl, ⟨.inr rfl, ⟨.inl rfl, trivial⟩⟩⟩⟩⟩⟩⟩⟩ ?_
  refine ab_aload_n C dX10_gives_0 rfl ?_
  refine ab_getR C dX10_gives_1 flX10_39 rkM_0 rfl mmM_0 ?_
  refine ab_iload_n C dX10_gives_4 rfl ?_
  obtain ⟨hg1, h⟩ := ab_grd h
  refine ab_iald C dX10_gives_5 rkM_10 mmM_10 hg1 ?_
  refine ab_if_ge C (tgt := 21) dX10_gives_6 (by decide) (fun hc2 => ?_) (fun hc2 => ?_)
  · replace h := ab_pos hc2 h
    refine ab_aload_n C dX10_gives_21 rfl ?_
    refine ab_getR C dX10_gives_22 flX10_42 rkM_0 rfl mmM_0 ?_
    refine ab_iconst C dX10_gives_25 (v := 0) rfl ?_
    refine ab_iload_n C dX10_gives_26 rfl ?_
    obtain ⟨hg3, h⟩ := ab_grd h
    refine ab_iast C dX10_gives_27 rkM_11 mmM_11 hg3 ?_
    refine ab_nmS (fun σ4 eσ4 => ?_)
    replace h := ab_kh eσ4 h
    refine ab_aload_n C dX10_gives_28 rfl ?_
    refine ab_getR C dX10_gives_29 flX10_42 rkM_0 rfl mmM_0 ?_
    refine ab_iconst C dX10_gives_32 (v := 1) rfl ?_
    refine ab_iload_n C dX10_gives_33 rfl ?_
    obtain ⟨hg5, h⟩ := ab_grd h
    refine ab_iast C dX10_gives_34 rkM_11 mmM_11 hg5 ?_
    refine ab_nmS (fun σ6 eσ6 => ?_)
    replace h := ab_kh eσ6 h
    refine ab_aload_n C dX10_gives_35 rfl ?_
    refine ab_getR C dX10_gives_36 flX10_42 rkM_0 rfl mmM_0 ?_
    refine ab_iconst C dX10_gives_39 (v := 2) rfl ?_
    refine ab_iload C dX10_gives_40 rfl ?_
    obtain ⟨hg7, h⟩ := ab_grd h
    refine ab_iast C dX10_gives_42 rkM_11 mmM_11 hg7 ?_
    refine ab_nmS (fun σ8 eσ8 => ?_)
    replace h := ab_kh eσ8 h
    refine ab_aload_n C dX10_gives_43 rfl ?_
    refine ab_getR C dX10_gives_44 flX10_42 rkM_0 rfl mmM_0 ?_
    refine ab_iconst C dX10_gives_47 (v := 3) rfl ?_
    refine ab_aload_n C dX10_gives_48 rfl ?_
    refine ab_getI C dX10_gives_49 flX10_86 rkM_0 rfl mmM_0 ?_
    obtain ⟨hg9, h⟩ := ab_grd h
    refine ab_iast C dX10_gives_52 rkM_11 mmM_11 hg9 ?_
    refine ab_nmS (fun σ10 eσ10 => ?_)
    replace h := ab_kh eσ10 h
    refine ab_aload_n C dX10_gives_53 rfl ?_
    refine ab_getR C dX10_gives_54 flX10_42 rkM_0 rfl mmM_0 ?_
    refine ab_iconst C dX10_gives_57 (v := 4) rfl ?_
    refine ab_iload C dX10_gives_58 rfl ?_
    obtain ⟨q11, hq11, h⟩ := ab_bind h
    refine ab_invS1 C dX10_gives_60 mlX10_202 ysX10_bitsOf (tX10_bitsOf l _ _ hq11) (Nat.le_of_ble_eq_true rfl) (Nat.le_of_ble_eq_true rfl) rfl (Nat.le_of_ble_eq_true rfl) ?_
    obtain ⟨hg12, h⟩ := ab_grd h
    refine ab_iast C dX10_gives_63 rkM_11 mmM_11 hg12 ?_
    refine ab_nmS (fun σ13 eσ13 => ?_)
    replace h := ab_kh eσ13 h
    refine ab_aload_n C dX10_gives_64 rfl ?_
    refine ab_getR C dX10_gives_65 flX10_42 rkM_0 rfl mmM_0 ?_
    refine ab_iconst C dX10_gives_68 (v := 5) rfl ?_
    refine ab_iload C dX10_gives_69 rfl ?_
    obtain ⟨hg14, h⟩ := ab_grd h
    refine ab_iast C dX10_gives_71 rkM_11 mmM_11 hg14 ?_
    refine ab_nmS (fun σ15 eσ15 => ?_)
    replace h := ab_kh eσ15 h
    refine ab_aload_n C dX10_gives_72 rfl ?_
    refine ab_bipush C dX10_gives_73 (v := 120) rfl ?_
    refine ab_iload_n C dX10_gives_75 rfl ?_
    refine ab_imul C dX10_gives_76  ?_
    refine ab_aload_n C dX10_gives_77 rfl ?_
    refine ab_getR C dX10_gives_78 flX10_39 rkM_0 rfl mmM_0 ?_
    refine ab_iload_n C dX10_gives_81 rfl ?_
    obtain ⟨hg16, h⟩ := ab_grd h
    refine ab_iald C dX10_gives_82 rkM_10 mmM_10 hg16 ?_
    obtain ⟨q17, hq17, h⟩ := ab_bind h
    refine ab_inv1 C dX10_gives_83 mlX10_199 yvX10_workOut rkM_0 ⟨_, _, rfl⟩ mmM_0 (tX10_workOut l _ _ _ hq17) (Nat.le_of_ble_eq_true rfl) (Nat.le_of_ble_eq_true rfl) rfl (Nat.le_of_ble_eq_true rfl) ?_
    refine ab_istore C dX10_gives_86 (Nat.le_of_ble_eq_true rfl) ?_
    refine ab_iload C dX10_gives_88 rfl ?_
    refine ab_if_ge C (tgt := 97) dX10_gives_90 (by decide) (fun hc18 => ?_) (fun hc18 => ?_)
    · replace h := ab_pos hc18 h
      refine ab_iload C dX10_gives_97 rfl ?_
      refine ab_bipush C dX10_gives_99 (v := 12) rfl ?_
      refine ab_icmp_le C (tgt := 109) dX10_gives_101 (by decide) (fun hc19 => ?_) (fun hc19 => ?_)
      · replace h := ab_pos hc19 h
        refine ab_iload C dX10_gives_109 rfl ?_
        refine ab_weak (lv' := [none, none, none, none, none, none, none, none]) ⟨.inl rfl, ⟨.inl rfl, ⟨.inl rfl, ⟨.inl rfl, ⟨.inl rfl, ⟨.inl rfl, ⟨.inl rfl, ⟨.inl rfl, trivial⟩⟩⟩⟩⟩⟩⟩⟩ ?_
        exact gX10_gives_b111 C _ _ h
      · replace h := ab_neg hc19 h
        refine ab_bipush C dX10_gives_104 (v := 12) rfl ?_
        refine ab_goto C (tgt := 111) dX10_gives_106 (by decide) ?_
        refine ab_weak (lv' := [none, none, none, none, none, none, none, none]) ⟨.inl rfl, ⟨.inl rfl, ⟨.inl rfl, ⟨.inl rfl, ⟨.inl rfl, ⟨.inl rfl, ⟨.inl rfl, ⟨.inl rfl, trivial⟩⟩⟩⟩⟩⟩⟩⟩ ?_
        exact gX10_gives_b111 C _ _ h
    · replace h := ab_neg hc18 h
      refine ab_iconst C dX10_gives_93 (v := 0) rfl ?_
      refine ab_goto C (tgt := 111) dX10_gives_94 (by decide) ?_
      refine ab_weak (lv' := [none, none, none, none, none, none, none, none]) ⟨.inl rfl, ⟨.inl rfl, ⟨.inl rfl, ⟨.inl rfl, ⟨.inl rfl, ⟨.inl rfl, ⟨.inl rfl, ⟨.inl rfl, trivial⟩⟩⟩⟩⟩⟩⟩⟩ ?_
      exact gX10_gives_b111 C _ _ h
  · replace h := ab_neg hc2 h
    refine ab_iload_n C dX10_gives_9 rfl ?_
    refine ab_iload_n C dX10_gives_10 rfl ?_
    refine ab_icmp_eq C (tgt := 19) dX10_gives_11 (by decide) (fun hc20 => ?_) (fun hc20 => ?_)
    · replace h := ab_pos hc20 h
      refine ab_iconst C dX10_gives_19 (v := 0) rfl ?_
      refine ab_weak (lv' := [none, none, none, none, none, none, none, none]) ⟨.inl rfl, ⟨.inl rfl, ⟨.inl rfl, ⟨.inl rfl, ⟨.inl rfl, ⟨.inl rfl, ⟨.inl rfl, ⟨.inl rfl, trivial⟩⟩⟩⟩⟩⟩⟩⟩ ?_
      exact gX10_gives_b20 C _ _ h
    · replace h := ab_neg hc20 h
      refine ab_bipush C dX10_gives_14 (v := 12) rfl ?_
      refine ab_goto C (tgt := 20) dX10_gives_16 (by decide) ?_
      refine ab_weak (lv' := [none, none, none, none, none, none, none, none]) ⟨.inl rfl, ⟨.inl rfl, ⟨.inl rfl, ⟨.inl rfl, ⟨.inl rfl, ⟨.inl rfl, ⟨.inl rfl, ⟨.inl rfl, trivial⟩⟩⟩⟩⟩⟩⟩⟩ ?_
      exact gX10_gives_b20 C _ _ h
end
def fX10_isIn_b14 (t0 : Int32) : Option Int32 := (if ab_isb t0 = true then some t0 else none)
def fX10_isIn (x0 : Int32) (x1 : Int32) : Option Int32 := (if ((x0 >>> (x1 &&& 31)) &&& 1) = 1 then fX10_isIn_b14 1 else fX10_isIn_b14 0)
section
variable {p : Program} {l : Launch} {e : Env} {s : State} {m : MethodId} {args : Array Value} {below : List Frame} {meth : Method} {c : Code} {D : va_G} {cA : Nat → ClassId} {ad : Nat → Nat → Nat}
set_option maxRecDepth 100000 in
set_option maxHeartbeats 4000000 in
theorem gX10_isIn_b14 {R : Int32} (C : ab_C yM p s m args meth c D cA ad cX10_isIn 2 RX10 (some .boolean)) {σ : ab_S} (t0 : Int32) (h : fX10_isIn_b14 t0 = some R) : ab_G yM p l e s m args below meth c D cA ad 2 0 (some (.inl R)) σ 14 [none, none] [.inl t0] σ := by
  obtain ⟨hg1, h⟩ := ab_grd h
  obtain rfl := Option.some.inj h
  exact ab_zret C dX10_isIn_14 hg1
set_option maxRecDepth 100000 in
set_option maxHeartbeats 4000000 in
theorem tX10_isIn (l : Launch) (x0 : Int32) (x1 : Int32) (σ : ab_S) {R : Int32} (h : fX10_isIn x0 x1 = some R) : ab_M l yM yX10_isIn cX10_isIn 2 (some .boolean) 0 [.inl x0, .inl x1] σ (some (.inl R)) σ := by
  refine ab_M_intro ndM (by decide) (Nat.le_of_ble_eq_true rfl) ?_
  intro p e s m args below meth c D cA ad C
  have C : ab_C yM p s m args meth c D cA ad cX10_isIn 2 RX10 (some .boolean) := C
  refine ab_weak (lv' := [some (.inl x0), some (.inl x1)]) ⟨.inr rfl, ⟨.inr rfl, trivial⟩⟩ ?_
  refine ab_iload_n C dX10_isIn_0 rfl ?_
  refine ab_iload_n C dX10_isIn_1 rfl ?_
  refine ab_ishr C dX10_isIn_2  ?_
  refine ab_iconst C dX10_isIn_3 (v := 1) rfl ?_
  refine ab_iand C dX10_isIn_4  ?_
  refine ab_iconst C dX10_isIn_5 (v := 1) rfl ?_
  refine ab_icmp_ne C (tgt := 13) dX10_isIn_6 (by decide) (fun hc1 => ?_) (fun hc1 => ?_)
  · replace h := ab_neg hc1 h
    refine ab_iconst C dX10_isIn_13 (v := 0) rfl ?_
    refine ab_weak (lv' := [none, none]) ⟨.inl rfl, ⟨.inl rfl, trivial⟩⟩ ?_
    exact gX10_isIn_b14 C _ h
  · replace h := ab_pos hc1 h
    refine ab_iconst C dX10_isIn_9 (v := 1) rfl ?_
    refine ab_goto C (tgt := 14) dX10_isIn_10 (by decide) ?_
    refine ab_weak (lv' := [none, none]) ⟨.inl rfl, ⟨.inl rfl, trivial⟩⟩ ?_
    exact gX10_isIn_b14 C _ h
end
def fX10_actIs_b140 (t0 : Int64) (σ : ab_S) : Option (Int64 × ab_S) := some (t0, σ)
def fX10_actIs_b134 (v7 : Int64) (σ : ab_S) : Option (Int64 × ab_S) := fX10_actIs_b140 v7 σ
def fX10_actIs_b104_o (kk104 : Int32 → Int64 → Int32 → Int32 → ab_S → Option (Int64 × ab_S)) (v6 : Int32) (v7 : Int64) (v9 : Int32) (v10 : Int32) (σ : ab_S) : Option (Int64 × ab_S) := (if 4 ≤ v10 then (if v6 < 0 then fX10_actIs_b134 v7 σ else (if v9 = 0 then fX10_actIs_b140 0 σ else fX10_actIs_b134 v7 σ)) else kk104 v6 (v7 * 12) v9 (v10 + 1) σ)
def fX10_actIs_b104 : Nat → Int32 → Int64 → Int32 → Int32 → ab_S → Option (Int64 × ab_S)
  | 0 => fun _ _ _ _ _ => none
  | n + 1 => fX10_actIs_b104_o  (fX10_actIs_b104 n)
def fX10_actIs_b98 (kk12 : Int32 → Int32 → Int32 → Int32 → Int32 → Int32 → Int64 → Int32 → Int32 → Int32 → ab_S → Option (Int64 × ab_S)) (v1 : Int32) (v2 : Int32) (v3 : Int32) (v4 : Int32) (v5 : Int32) (v6 : Int32) (v7 : Int64) (v9 : Int32) (v10 : Int32) (v11 : Int32) (σ : ab_S) : Option (Int64 × ab_S) := kk12 v1 v2 v3 v4 v5 v6 v7 v9 v10 (v11 + 1) σ
def fX10_actIs_b96 (kk12 : Int32 → Int32 → Int32 → Int32 → Int32 → Int32 → Int64 → Int32 → Int32 → Int32 → ab_S → Option (Int64 × ab_S)) (v1 : Int32) (v2 : Int32) (v3 : Int32) (v4 : Int32) (v5 : Int32) (v6 : Int32) (v7 : Int64) (v10 : Int32) (v11 : Int32) (t0 : Int32) (σ : ab_S) : Option (Int64 × ab_S) := fX10_actIs_b98 kk12 v1 v2 v3 v4 v5 v6 v7 t0 v10 v11 σ
def fX10_actIs_b78 (kk12 : Int32 → Int32 → Int32 → Int32 → Int32 → Int32 → Int64 → Int32 → Int32 → Int32 → ab_S → Option (Int64 × ab_S)) (v1 : Int32) (v2 : Int32) (v3 : Int32) (v4 : Int32) (v5 : Int32) (v6 : Int32) (v10 : Int32) (v11 : Int32) (t0 : Int64) (t1 : Int64) (σ : ab_S) : Option (Int64 × ab_S) := (if v11 = v6 then fX10_actIs_b96 kk12 v1 v2 v3 v4 v5 v6 (t0 * t1) (v10 + 1) v11 1 σ else fX10_actIs_b96 kk12 v1 v2 v3 v4 v5 v6 (t0 * t1) (v10 + 1) v11 0 σ)
def fX10_actIs_b12_o (kk12 : Int32 → Int32 → Int32 → Int32 → Int32 → Int32 → Int64 → Int32 → Int32 → Int32 → ab_S → Option (Int64 × ab_S)) (v1 : Int32) (v2 : Int32) (v3 : Int32) (v4 : Int32) (v5 : Int32) (v6 : Int32) (v7 : Int64) (v9 : Int32) (v10 : Int32) (v11 : Int32) (σ : ab_S) : Option (Int64 × ab_S) := (if (σ.1 0 0 6) ≤ v11 then fX10_actIs_b104 ab_N v6 v7 v9 v10 σ else (if v11 = v3 then fX10_actIs_b98 kk12 v1 v2 v3 v4 v5 v6 v7 v9 v10 v11 σ else (fX10_isIn v4 v11).bind fun q3 => (if q3 = 0 then (if v9 = 0 then (fX10_gives v1 v11 v2 v3 v4 v5 σ).bind fun q6 => (if v11 = v6 then fX10_actIs_b78 kk12 v1 v2 v3 v4 v5 v6 v10 v11 v7 ((q6.1 : Int32).toInt64) q6.2 else fX10_actIs_b78 kk12 v1 v2 v3 v4 v5 v6 v10 v11 v7 ((12 - q6.1 : Int32).toInt64) q6.2) else fX10_actIs_b98 kk12 v1 v2 v3 v4 v5 v6 v7 v9 v10 v11 σ) else fX10_actIs_b98 kk12 v1 v2 v3 v4 v5 v6 v7 v9 v10 v11 σ)))
def fX10_actIs_b12 : Nat → Int32 → Int32 → Int32 → Int32 → Int32 → Int32 → Int64 → Int32 → Int32 → Int32 → ab_S → Option (Int64 × ab_S)
  | 0 => fun _ _ _ _ _ _ _ _ _ _ _ => none
  | n + 1 => fX10_actIs_b12_o  (fX10_actIs_b12 n)
def fX10_actIs (x1 : Int32) (x2 : Int32) (x3 : Int32) (x4 : Int32) (x5 : Int32) (x6 : Int32) (σ : ab_S) : Option (Int64 × ab_S) := fX10_actIs_b12 ab_N x1 x2 x3 x4 x5 x6 1 0 0 0 σ
section
variable {p : Program} {l : Launch} {e : Env} {s : State} {m : MethodId} {args : Array Value} {below : List Frame} {meth : Method} {c : Code} {D : va_G} {cA : Nat → ClassId} {ad : Nat → Nat → Nat}
set_option maxRecDepth 100000 in
set_option maxHeartbeats 4000000 in
theorem gX10_actIs_b140 {R : (Int64 × ab_S)} (C : ab_C yM p s m args meth c D cA ad cX10_actIs 13 RX10 (some .long)) (t0 : Int64) (σ : ab_S) (h : fX10_actIs_b140 t0 σ = some R) : ab_G yM p l e s m args below meth c D cA ad 13 69 (some (.inr (.inl R.1))) R.2 140 [none, none, none, none, none, none, none, none, none, none, none, none, none] [.inr (.inl t0)] σ := by
  obtain rfl := Option.some.inj h
  exact ab_lret C dX10_actIs_140
set_option maxRecDepth 100000 in
set_option maxHeartbeats 4000000 in
theorem gX10_actIs_b134 {R : (Int64 × ab_S)} (C : ab_C yM p s m args meth c D cA ad cX10_actIs 13 RX10 (some .long)) (v7 : Int64) (σ : ab_S) (h : fX10_actIs_b134 v7 σ = some R) : ab_G yM p l e s m args below meth c D cA ad 13 69 (some (.inr (.inl R.1))) R.2 134 [none, none, none, none, none, none, none, some (.inr (.inl v7)), none, none, none, none, none] [] σ := by
  refine ab_lload C dX10_actIs_134 rfl ?_
  refine ab_goto C (tgt := 140) dX10_actIs_136 (by decide) ?_
  refine ab_weak (lv' := [none, none, none, none, none, none, none, none, none, none, none, none, none]) ⟨.inl rfl, ⟨.inl rfl, ⟨.inl rfl, ⟨.inl rfl, ⟨.inl rfl, ⟨.inl rfl, ⟨.inl rfl, ⟨.inl rfl, ⟨.inl rfl, ⟨.inl rfl, ⟨.inl rfl, ⟨.inl rfl, ⟨.inl rfl, trivial⟩⟩⟩⟩⟩⟩⟩⟩⟩⟩⟩⟩⟩ ?_
  exact gX10_actIs_b140 C _ _ h
set_option maxRecDepth 100000 in
set_option maxHeartbeats 4000000 in
theorem gX10_actIs_b104_o {R : (Int64 × ab_S)} (C : ab_C yM p s m args meth c D cA ad cX10_actIs 13 RX10 (some .long)) {kk104 : Int32 → Int64 → Int32 → Int32 → ab_S → Option (Int64 × ab_S)} (hk104 : ∀ (v6 : Int32) (v7 : Int64) (v9 : Int32) (v10 : Int32) (σ : ab_S), kk104 v6 v7 v9 v10 σ = some R → ab_G yM p l e s m args below meth c D cA ad 13 69 (some (.inr (.inl R.1))) R.2 104 [none, none, none, none, none, none, some (.inl v6), some (.inr (.inl v7)), none, some (.inl v9), some (.inl v10), none, none] [] σ) (v6 : Int32) (v7 : Int64) (v9 : Int32) (v10 : Int32) (σ : ab_S) (h : fX10_actIs_b104_o kk104 v6 v7 v9 v10 σ = some R) : ab_G yM p l e s m args below meth c D cA ad 13 69 (some (.inr (.inl R.1))) R.2 104 [none, none, none, none, none, none, some (.inl v6), some (.inr (.inl v7)), none, some (.inl v9), some (.inl v10), none, none] [] σ := by
  refine ab_iload C dX10_actIs_104 rfl ?_
  refine ab_iconst C dX10_actIs_106 (v := 4) rfl ?_
  refine ab_icmp_ge C (tgt := 124) dX10_actIs_107 (by decide) (fun hc1 => ?_) (fun hc1 => ?_)
  · replace h := ab_pos hc1 h
    refine ab_iload C dX10_actIs_124 rfl ?_
    refine ab_if_lt C (tgt := 134) dX10_actIs_126 (by decide) (fun hc2 => ?_) (fun hc2 => ?_)
    · replace h := ab_pos hc2 h
      refine ab_weak (lv' := [none, none, none, none, none, none, none, some (.inr (.inl v7)), none, none, none, none, none]) ⟨.inl rfl, ⟨.inl rfl, ⟨.inl rfl, ⟨.inl rfl, ⟨.inl rfl, ⟨.inl rfl, ⟨.inl rfl, ⟨.inr rfl, ⟨.inl rfl, ⟨.inl rfl, ⟨.inl rfl, ⟨.inl rfl, ⟨.inl rfl, trivial⟩⟩⟩⟩⟩⟩⟩⟩⟩⟩⟩⟩⟩ ?_
      exact gX10_actIs_b134 C _ _ h
    · replace h := ab_neg hc2 h
      refine ab_iload C dX10_actIs_129 rfl ?_
      refine ab_if_eq C (tgt := 139) dX10_actIs_131 (by decide) (fun hc3 => ?_) (fun hc3 => ?_)
      · replace h := ab_pos hc3 h
        refine ab_lconst C dX10_actIs_139 (v := 0) rfl ?_
        refine ab_weak (lv' := [none, none, none, none, none, none, none, none, none, none, none, none, none]) ⟨.inl rfl, ⟨.inl rfl, ⟨.inl rfl, ⟨.inl rfl, ⟨.inl rfl, ⟨.inl rfl, ⟨.inl rfl, ⟨.inl rfl, ⟨.inl rfl, ⟨.inl rfl, ⟨.inl rfl, ⟨.inl rfl, ⟨.inl rfl, trivial⟩⟩⟩⟩⟩⟩⟩⟩⟩⟩⟩⟩⟩ ?_
        exact gX10_actIs_b140 C _ _ h
      · replace h := ab_neg hc3 h
        refine ab_weak (lv' := [none, none, none, none, none, none, none, some (.inr (.inl v7)), none, none, none, none, none]) ⟨.inl rfl, ⟨.inl rfl, ⟨.inl rfl, ⟨.inl rfl, ⟨.inl rfl, ⟨.inl rfl, ⟨.inl rfl, ⟨.inr rfl, ⟨.inl rfl, ⟨.inl rfl, ⟨.inl rfl, ⟨.inl rfl, ⟨.inl rfl, trivial⟩⟩⟩⟩⟩⟩⟩⟩⟩⟩⟩⟩⟩ ?_
        exact gX10_actIs_b134 C _ _ h
  · replace h := ab_neg hc1 h
    refine ab_lload C dX10_actIs_110 rfl ?_
    refine ab_ldc2 C dX10_actIs_112 cwX10_121 ?_
    refine ab_lmul C dX10_actIs_115  ?_
    refine ab_lstore C dX10_actIs_116 (Nat.le_of_ble_eq_true rfl) ?_
    refine ab_iinc C dX10_actIs_118 rfl (v := 1) rfl (Nat.le_of_ble_eq_true rfl) ?_
    refine ab_goto C (tgt := 104) dX10_actIs_121 (by decide) ?_
    refine ab_weak (lv' := [none, none, none, none, none, none, some (.inl v6), some (.inr (.inl (v7 * 12))), none, some (.inl v9), some (.inl (v10 + 1)), none, none]) ⟨.inl rfl, ⟨.inl rfl, ⟨.inl rfl, ⟨.inl rfl, ⟨.inl rfl, ⟨.inl rfl, ⟨.inr rfl, ⟨.inr rfl, ⟨.inl rfl, ⟨.inr rfl, ⟨.inr rfl, ⟨.inl rfl, ⟨.inl rfl, trivial⟩⟩⟩⟩⟩⟩⟩⟩⟩⟩⟩⟩⟩ ?_
    exact hk104 _ _ _ _ _ h
theorem gX10_actIs_b104 {R : (Int64 × ab_S)} (C : ab_C yM p s m args meth c D cA ad cX10_actIs 13 RX10 (some .long)) : ∀ (j : Nat) (v6 : Int32) (v7 : Int64) (v9 : Int32) (v10 : Int32) (σ : ab_S), fX10_actIs_b104 j v6 v7 v9 v10 σ = some R → ab_G yM p l e s m args below meth c D cA ad 13 69 (some (.inr (.inl R.1))) R.2 104 [none, none, none, none, none, none, some (.inl v6), some (.inr (.inl v7)), none, some (.inl v9), some (.inl v10), none, none] [] σ := by
  intro j
  induction j with
  | zero => intro v6 v7 v9 v10 σ  h; cases h
  | succ j ih => intro v6 v7 v9 v10 σ  h; exact gX10_actIs_b104_o C ih _ _ _ _ _ h
set_option maxRecDepth 100000 in
set_option maxHeartbeats 4000000 in
theorem gX10_actIs_b98 {R : (Int64 × ab_S)} (C : ab_C yM p s m args meth c D cA ad cX10_actIs 13 RX10 (some .long)) {kk12 : Int32 → Int32 → Int32 → Int32 → Int32 → Int32 → Int64 → Int32 → Int32 → Int32 → ab_S → Option (Int64 × ab_S)} (hk12 : ∀ (v1 : Int32) (v2 : Int32) (v3 : Int32) (v4 : Int32) (v5 : Int32) (v6 : Int32) (v7 : Int64) (v9 : Int32) (v10 : Int32) (v11 : Int32) (σ : ab_S), kk12 v1 v2 v3 v4 v5 v6 v7 v9 v10 v11 σ = some R → ab_G yM p l e s m args below meth c D cA ad 13 69 (some (.inr (.inl R.1))) R.2 12 [some (.inr (.inr (0, 0))), some (.inl v1), some (.inl v2), some (.inl v3), some (.inl v4), some (.inl v5), some (.inl v6), some (.inr (.inl v7)), none, some (.inl v9), some (.inl v10), some (.inl v11), none] [] σ) (v1 : Int32) (v2 : Int32) (v3 : Int32) (v4 : Int32) (v5 : Int32) (v6 : Int32) (v7 : Int64) (v9 : Int32) (v10 : Int32) (v11 : Int32) (σ : ab_S) (h : fX10_actIs_b98 kk12 v1 v2 v3 v4 v5 v6 v7 v9 v10 v11 σ = some R) : ab_G yM p l e s m args below meth c D cA ad 13 69 (some (.inr (.inl R.1))) R.2 98 [some (.inr (.inr (0, 0))), some (.inl v1), some (.inl v2), some (.inl v3), some (.inl v4), some (.inl v5), some (.inl v6), some (.inr (.inl v7)), none, some (.inl v9), some (.inl v10), some (.inl v11), none] [] σ := by
  refine ab_iinc C dX10_actIs_98 rfl (v := 1) rfl (Nat.le_of_ble_eq_true rfl) ?_
  refine ab_goto C (tgt := 12) dX10_actIs_101 (by decide) ?_
  refine ab_weak (lv' := [some (.inr (.inr (0, 0))), some (.inl v1), some (.inl v2), some (.inl v3), some (.inl v4), some (.inl v5), some (.inl v6), some (.inr (.inl v7)), none, some (.inl v9), some (.inl v10), some (.inl (v11 + 1)), none]) ⟨.inr rfl, ⟨.inr rfl, ⟨.inr rfl, ⟨.inr rfl, ⟨.inr rfl, ⟨.inr rfl, ⟨.inr rfl, ⟨.inr rfl, ⟨.inl rfl, ⟨.inr rfl, ⟨.inr rfl, ⟨.inr rfl, ⟨.inl rfl, trivial⟩⟩⟩⟩⟩⟩⟩⟩⟩⟩⟩⟩⟩ ?_
  exact hk12 _ _ _ _ _ _ _ _ _ _ _ h
set_option maxRecDepth 100000 in
set_option maxHeartbeats 4000000 in
theorem gX10_actIs_b96 {R : (Int64 × ab_S)} (C : ab_C yM p s m args meth c D cA ad cX10_actIs 13 RX10 (some .long)) {kk12 : Int32 → Int32 → Int32 → Int32 → Int32 → Int32 → Int64 → Int32 → Int32 → Int32 → ab_S → Option (Int64 × ab_S)} (hk12 : ∀ (v1 : Int32) (v2 : Int32) (v3 : Int32) (v4 : Int32) (v5 : Int32) (v6 : Int32) (v7 : Int64) (v9 : Int32) (v10 : Int32) (v11 : Int32) (σ : ab_S), kk12 v1 v2 v3 v4 v5 v6 v7 v9 v10 v11 σ = some R → ab_G yM p l e s m args below meth c D cA ad 13 69 (some (.inr (.inl R.1))) R.2 12 [some (.inr (.inr (0, 0))), some (.inl v1), some (.inl v2), some (.inl v3), some (.inl v4), some (.inl v5), some (.inl v6), some (.inr (.inl v7)), none, some (.inl v9), some (.inl v10), some (.inl v11), none] [] σ) (v1 : Int32) (v2 : Int32) (v3 : Int32) (v4 : Int32) (v5 : Int32) (v6 : Int32) (v7 : Int64) (v10 : Int32) (v11 : Int32) (t0 : Int32) (σ : ab_S) (h : fX10_actIs_b96 kk12 v1 v2 v3 v4 v5 v6 v7 v10 v11 t0 σ = some R) : ab_G yM p l e s m args below meth c D cA ad 13 69 (some (.inr (.inl R.1))) R.2 96 [some (.inr (.inr (0, 0))), some (.inl v1), some (.inl v2), some (.inl v3), some (.inl v4), some (.inl v5), some (.inl v6), some (.inr (.inl v7)), none, none, some (.inl v10), some (.inl v11), none] [.inl t0] σ := by
  refine ab_istore C dX10_actIs_96 (Nat.le_of_ble_eq_true rfl) ?_
  refine ab_weak (lv' := [some (.inr (.inr (0, 0))), some (.inl v1), some (.inl v2), some (.inl v3), some (.inl v4), some (.inl v5), some (.inl v6), some (.inr (.inl v7)), none, some (.inl t0), some (.inl v10), some (.inl v11), none]) ⟨.inr rfl, ⟨.inr rfl, ⟨.inr rfl, ⟨.inr rfl, ⟨.inr rfl, ⟨.inr rfl, ⟨.inr rfl, ⟨.inr rfl, ⟨.inl rfl, ⟨.inr rfl, ⟨.inr rfl, ⟨.inr rfl, ⟨.inl rfl, trivial⟩⟩⟩⟩⟩⟩⟩⟩⟩⟩⟩⟩⟩ ?_
  exact gX10_actIs_b98 C hk12 _ _ _ _ _ _ _ _ _ _ _ h
set_option maxRecDepth 100000 in
set_option maxHeartbeats 4000000 in
theorem gX10_actIs_b78 {R : (Int64 × ab_S)} (C : ab_C yM p s m args meth c D cA ad cX10_actIs 13 RX10 (some .long)) {kk12 : Int32 → Int32 → Int32 → Int32 → Int32 → Int32 → Int64 → Int32 → Int32 → Int32 → ab_S → Option (Int64 × ab_S)} (hk12 : ∀ (v1 : Int32) (v2 : Int32) (v3 : Int32) (v4 : Int32) (v5 : Int32) (v6 : Int32) (v7 : Int64) (v9 : Int32) (v10 : Int32) (v11 : Int32) (σ : ab_S), kk12 v1 v2 v3 v4 v5 v6 v7 v9 v10 v11 σ = some R → ab_G yM p l e s m args below meth c D cA ad 13 69 (some (.inr (.inl R.1))) R.2 12 [some (.inr (.inr (0, 0))), some (.inl v1), some (.inl v2), some (.inl v3), some (.inl v4), some (.inl v5), some (.inl v6), some (.inr (.inl v7)), none, some (.inl v9), some (.inl v10), some (.inl v11), none] [] σ) (v1 : Int32) (v2 : Int32) (v3 : Int32) (v4 : Int32) (v5 : Int32) (v6 : Int32) (v10 : Int32) (v11 : Int32) (t0 : Int64) (t1 : Int64) (σ : ab_S) (h : fX10_actIs_b78 kk12 v1 v2 v3 v4 v5 v6 v10 v11 t0 t1 σ = some R) : ab_G yM p l e s m args below meth c D cA ad 13 69 (some (.inr (.inl R.1))) R.2 78 [some (.inr (.inr (0, 0))), some (.inl v1), some (.inl v2), some (.inl v3), some (.inl v4), some (.inl v5), some (.inl v6), none, none, none, some (.inl v10), some (.inl v11), none] [.inr (.inl t1), .inr (.inl t0)] σ := by
  refine ab_lmul C dX10_actIs_78  ?_
  refine ab_lstore C dX10_actIs_79 (Nat.le_of_ble_eq_true rfl) ?_
  refine ab_iinc C dX10_actIs_81 rfl (v := 1) rfl (Nat.le_of_ble_eq_true rfl) ?_
  refine ab_iload C dX10_actIs_84 rfl ?_
  refine ab_iload C dX10_actIs_86 rfl ?_
  refine ab_icmp_ne C (tgt := 95) dX10_actIs_88 (by decide) (fun hc1 => ?_) (fun hc1 => ?_)
  · replace h := ab_neg hc1 h
    refine ab_iconst C dX10_actIs_95 (v := 0) rfl ?_
    refine ab_weak (lv' := [some (.inr (.inr (0, 0))), some (.inl v1), some (.inl v2), some (.inl v3), some (.inl v4), some (.inl v5), some (.inl v6), some (.inr (.inl (t0 * t1))), none, none, some (.inl (v10 + 1)), some (.inl v11), none]) ⟨.inr rfl, ⟨.inr rfl, ⟨.inr rfl, ⟨.inr rfl, ⟨.inr rfl, ⟨.inr rfl, ⟨.inr rfl, ⟨.inr rfl, ⟨.inl rfl, ⟨.inl rfl, ⟨.inr rfl, ⟨.inr rfl, ⟨.inl rfl, trivial⟩⟩⟩⟩⟩⟩⟩⟩⟩⟩⟩⟩⟩ ?_
    exact gX10_actIs_b96 C hk12 _ _ _ _ _ _ _ _ _ _ _ h
  · replace h := ab_pos hc1 h
    refine ab_iconst C dX10_actIs_91 (v := 1) rfl ?_
    refine ab_goto C (tgt := 96) dX10_actIs_92 (by decide) ?_
    refine ab_weak (lv' := [some (.inr (.inr (0, 0))), some (.inl v1), some (.inl v2), some (.inl v3), some (.inl v4), some (.inl v5), some (.inl v6), some (.inr (.inl (t0 * t1))), none, none, some (.inl (v10 + 1)), some (.inl v11), none]) ⟨.inr rfl, ⟨.inr rfl, ⟨.inr rfl, ⟨.inr rfl, ⟨.inr rfl, ⟨.inr rfl, ⟨.inr rfl, ⟨.inr rfl, ⟨.inl rfl, ⟨.inl rfl, ⟨.inr rfl, ⟨.inr rfl, ⟨.inl rfl, trivial⟩⟩⟩⟩⟩⟩⟩⟩⟩⟩⟩⟩⟩ ?_
    exact gX10_actIs_b96 C hk12 _ _ _ _ _ _ _ _ _ _ _ h
set_option maxRecDepth 100000 in
set_option maxHeartbeats 4000000 in
theorem gX10_actIs_b12_o {R : (Int64 × ab_S)} (C : ab_C yM p s m args meth c D cA ad cX10_actIs 13 RX10 (some .long)) {kk12 : Int32 → Int32 → Int32 → Int32 → Int32 → Int32 → Int64 → Int32 → Int32 → Int32 → ab_S → Option (Int64 × ab_S)} (hk12 : ∀ (v1 : Int32) (v2 : Int32) (v3 : Int32) (v4 : Int32) (v5 : Int32) (v6 : Int32) (v7 : Int64) (v9 : Int32) (v10 : Int32) (v11 : Int32) (σ : ab_S), kk12 v1 v2 v3 v4 v5 v6 v7 v9 v10 v11 σ = some R → ab_G yM p l e s m args below meth c D cA ad 13 69 (some (.inr (.inl R.1))) R.2 12 [some (.inr (.inr (0, 0))), some (.inl v1), some (.inl v2), some (.inl v3), some (.inl v4), some (.inl v5), some (.inl v6), some (.inr (.inl v7)), none, some (.inl v9), some (.inl v10), some (.inl v11), none] [] σ) (v1 : Int32) (v2 : Int32) (v3 : Int32) (v4 : Int32) (v5 : Int32) (v6 : Int32) (v7 : Int64) (v9 : Int32) (v10 : Int32) (v11 : Int32) (σ : ab_S) (h : fX10_actIs_b12_o kk12 v1 v2 v3 v4 v5 v6 v7 v9 v10 v11 σ = some R) : ab_G yM p l e s m args below meth c D cA ad 13 69 (some (.inr (.inl R.1))) R.2 12 [some (.inr (.inr (0, 0))), some (.inl v1), some (.inl v2), some (.inl v3), some (.inl v4), some (.inl v5), some (.inl v6), some (.inr (.inl v7)), none, some (.inl v9), some (.inl v10), some (.inl v11), none] [] σ := by
  refine ab_iload C dX10_actIs_12 rfl ?_
  refine ab_aload_n C dX10_actIs_14 rfl ?_
  refine ab_getI C dX10_actIs_15 flX10_86 rkM_0 rfl mmM_0 ?_
  refine ab_icmp_ge C (tgt := 104) dX10_actIs_18 (by decide) (fun hc1 => ?_) (fun hc1 => ?_)
  · replace h := ab_pos hc1 h
    refine ab_weak (lv' := [none, none, none, none, none, none, some (.inl v6), some (.inr (.inl v7)), none, some (.inl v9), some (.inl v10), none, none]) ⟨.inl rfl, ⟨.inl rfl, ⟨.inl rfl, ⟨.inl rfl, ⟨.inl rfl, ⟨.inl rfl, ⟨.inr rfl, ⟨.inr rfl, ⟨.inl rfl, ⟨.inr rfl, ⟨.inr rfl, ⟨.inl rfl, ⟨.inl rfl, trivial⟩⟩⟩⟩⟩⟩⟩⟩⟩⟩⟩⟩⟩ ?_
    exact gX10_actIs_b104 C ab_N _ _ _ _ _ h
  · replace h := ab_neg hc1 h
    refine ab_iload C dX10_actIs_21 rfl ?_
    refine ab_iload_n C dX10_actIs_23 rfl ?_
    refine ab_icmp_eq C (tgt := 98) dX10_actIs_24 (by decide) (fun hc2 => ?_) (fun hc2 => ?_)
    · replace h := ab_pos hc2 h
      refine ab_weak (lv' := [some (.inr (.inr (0, 0))), some (.inl v1), some (.inl v2), some (.inl v3), some (.inl v4), some (.inl v5), some (.inl v6), some (.inr (.inl v7)), none, some (.inl v9), some (.inl v10), some (.inl v11), none]) ⟨.inr rfl, ⟨.inr rfl, ⟨.inr rfl, ⟨.inr rfl, ⟨.inr rfl, ⟨.inr rfl, ⟨.inr rfl, ⟨.inr rfl, ⟨.inl rfl, ⟨.inr rfl, ⟨.inr rfl, ⟨.inr rfl, ⟨.inl rfl, trivial⟩⟩⟩⟩⟩⟩⟩⟩⟩⟩⟩⟩⟩ ?_
      exact gX10_actIs_b98 C hk12 _ _ _ _ _ _ _ _ _ _ _ h
    · replace h := ab_neg hc2 h
      refine ab_iload C dX10_actIs_27 rfl ?_
      refine ab_iload C dX10_actIs_29 rfl ?_
      obtain ⟨q3, hq3, h⟩ := ab_bind h
      refine ab_invS1 C dX10_actIs_31 mlX10_138 ysX10_isIn (tX10_isIn l _ _ _ hq3) (Nat.le_of_ble_eq_true rfl) (Nat.le_of_ble_eq_true rfl) rfl (Nat.le_of_ble_eq_true rfl) ?_
      refine ab_if_ne C (tgt := 98) dX10_actIs_34 (by decide) (fun hc4 => ?_) (fun hc4 => ?_)
      · replace h := ab_neg hc4 h
        refine ab_weak (lv' := [some (.inr (.inr (0, 0))), some (.inl v1), some (.inl v2), some (.inl v3), some (.inl v4), some (.inl v5), some (.inl v6), some (.inr (.inl v7)), none, some (.inl v9), some (.inl v10), some (.inl v11), none]) ⟨.inr rfl, ⟨.inr rfl, ⟨.inr rfl, ⟨.inr rfl, ⟨.inr rfl, ⟨.inr rfl, ⟨.inr rfl, ⟨.inr rfl, ⟨.inl rfl, ⟨.inr rfl, ⟨.inr rfl, ⟨.inr rfl, ⟨.inl rfl, trivial⟩⟩⟩⟩⟩⟩⟩⟩⟩⟩⟩⟩⟩ ?_
        exact gX10_actIs_b98 C hk12 _ _ _ _ _ _ _ _ _ _ _ h
      · replace h := ab_pos hc4 h
        refine ab_iload C dX10_actIs_37 rfl ?_
        refine ab_if_ne C (tgt := 98) dX10_actIs_39 (by decide) (fun hc5 => ?_) (fun hc5 => ?_)
        · replace h := ab_neg hc5 h
          refine ab_weak (lv' := [some (.inr (.inr (0, 0))), some (.inl v1), some (.inl v2), some (.inl v3), some (.inl v4), some (.inl v5), some (.inl v6), some (.inr (.inl v7)), none, some (.inl v9), some (.inl v10), some (.inl v11), none]) ⟨.inr rfl, ⟨.inr rfl, ⟨.inr rfl, ⟨.inr rfl, ⟨.inr rfl, ⟨.inr rfl, ⟨.inr rfl, ⟨.inr rfl, ⟨.inl rfl, ⟨.inr rfl, ⟨.inr rfl, ⟨.inr rfl, ⟨.inl rfl, trivial⟩⟩⟩⟩⟩⟩⟩⟩⟩⟩⟩⟩⟩ ?_
          exact gX10_actIs_b98 C hk12 _ _ _ _ _ _ _ _ _ _ _ h
        · replace h := ab_pos hc5 h
          refine ab_aload_n C dX10_actIs_42 rfl ?_
          refine ab_iload_n C dX10_actIs_43 rfl ?_
          refine ab_iload C dX10_actIs_44 rfl ?_
          refine ab_iload_n C dX10_actIs_46 rfl ?_
          refine ab_iload_n C dX10_actIs_47 rfl ?_
          refine ab_iload C dX10_actIs_48 rfl ?_
          refine ab_iload C dX10_actIs_50 rfl ?_
          obtain ⟨q6, hq6, h⟩ := ab_bind h
          refine ab_inv1 C dX10_actIs_52 mlX10_205 yvX10_gives rkM_0 ⟨_, _, rfl⟩ mmM_0 (tX10_gives l _ _ _ _ _ _ _ hq6) (Nat.le_of_ble_eq_true rfl) (Nat.le_of_ble_eq_true rfl) rfl (Nat.le_of_ble_eq_true rfl) ?_
          refine ab_istore C dX10_actIs_55 (Nat.le_of_ble_eq_true rfl) ?_
          refine ab_lload C dX10_actIs_57 rfl ?_
          refine ab_iload C dX10_actIs_59 rfl ?_
          refine ab_iload C dX10_actIs_61 rfl ?_
          refine ab_icmp_ne C (tgt := 72) dX10_actIs_63 (by decide) (fun hc7 => ?_) (fun hc7 => ?_)
          · replace h := ab_neg hc7 h
            refine ab_bipush C dX10_actIs_72 (v := 12) rfl ?_
            refine ab_iload C dX10_actIs_74 rfl ?_
            refine ab_isub C dX10_actIs_76  ?_
            refine ab_i2l C dX10_actIs_77  ?_
            refine ab_weak (lv' := [some (.inr (.inr (0, 0))), some (.inl v1), some (.inl v2), some (.inl v3), some (.inl v4), some (.inl v5), some (.inl v6), none, none, none, some (.inl v10), some (.inl v11), none]) ⟨.inr rfl, ⟨.inr rfl, ⟨.inr rfl, ⟨.inr rfl, ⟨.inr rfl, ⟨.inr rfl, ⟨.inr rfl, ⟨.inl rfl, ⟨.inl rfl, ⟨.inl rfl, ⟨.inr rfl, ⟨.inr rfl, ⟨.inl rfl, trivial⟩⟩⟩⟩⟩⟩⟩⟩⟩⟩⟩⟩⟩ ?_
            exact gX10_actIs_b78 C hk12 _ _ _ _ _ _ _ _ _ _ _ h
          · replace h := ab_pos hc7 h
            refine ab_iload C dX10_actIs_66 rfl ?_
            refine ab_i2l C dX10_actIs_68  ?_
            refine ab_goto C (tgt := 78) dX10_actIs_69 (by decide) ?_
            refine ab_weak (lv' := [some (.inr (.inr (0, 0))), some (.inl v1), some (.inl v2), some (.inl v3), some (.inl v4), some (.inl v5), some (.inl v6), none, none, none, some (.inl v10), some (.inl v11), none]) ⟨.inr rfl, ⟨.inr rfl, ⟨.inr rfl, ⟨.inr rfl, ⟨.inr rfl, ⟨.inr rfl, ⟨.inr rfl, ⟨.inl rfl, ⟨.inl rfl, ⟨.inl rfl, ⟨.inr rfl, ⟨.inr rfl, ⟨.inl rfl, trivial⟩⟩⟩⟩⟩⟩⟩⟩⟩⟩⟩⟩⟩ ?_
            exact gX10_actIs_b78 C hk12 _ _ _ _ _ _ _ _ _ _ _ h
theorem gX10_actIs_b12 {R : (Int64 × ab_S)} (C : ab_C yM p s m args meth c D cA ad cX10_actIs 13 RX10 (some .long)) : ∀ (j : Nat) (v1 : Int32) (v2 : Int32) (v3 : Int32) (v4 : Int32) (v5 : Int32) (v6 : Int32) (v7 : Int64) (v9 : Int32) (v10 : Int32) (v11 : Int32) (σ : ab_S), fX10_actIs_b12 j v1 v2 v3 v4 v5 v6 v7 v9 v10 v11 σ = some R → ab_G yM p l e s m args below meth c D cA ad 13 69 (some (.inr (.inl R.1))) R.2 12 [some (.inr (.inr (0, 0))), some (.inl v1), some (.inl v2), some (.inl v3), some (.inl v4), some (.inl v5), some (.inl v6), some (.inr (.inl v7)), none, some (.inl v9), some (.inl v10), some (.inl v11), none] [] σ := by
  intro j
  induction j with
  | zero => intro v1 v2 v3 v4 v5 v6 v7 v9 v10 v11 σ  h; cases h
  | succ j ih => intro v1 v2 v3 v4 v5 v6 v7 v9 v10 v11 σ  h; exact gX10_actIs_b12_o C ih _ _ _ _ _ _ _ _ _ _ _ h
set_option maxRecDepth 100000 in
set_option maxHeartbeats 4000000 in
theorem tX10_actIs (l : Launch) (x1 : Int32) (x2 : Int32) (x3 : Int32) (x4 : Int32) (x5 : Int32) (x6 : Int32) (σ : ab_S) {R : (Int64 × ab_S)} (h : fX10_actIs x1 x2 x3 x4 x5 x6 σ = some R) : ab_M l yM yX10_actIs cX10_actIs 13 (some .long) 69 [.inr (.inr (0, 0)), .inl x1, .inl x2, .inl x3, .inl x4, .inl x5, .inl x6] σ (some (.inr (.inl R.1))) R.2 := by
  refine ab_M_intro ndM (by decide) (Nat.le_of_ble_eq_true rfl) ?_
  intro p e s m args below meth c D cA ad C
  have C : ab_C yM p s m args meth c D cA ad cX10_actIs 13 RX10 (some .long) := C
  refine ab_weak (lv' := [some (.inr (.inr (0, 0))), some (.inl x1), some (.inl x2), some (.inl x3), some (.inl x4), some (.inl x5), some (.inl x6), none, none, none, none, none, none]) ⟨.inr rfl, ⟨.inr rfl, ⟨.inr rfl, ⟨.inr rfl, ⟨.inr rfl, ⟨.inr rfl, ⟨.inr rfl, ⟨.inl rfl, ⟨.inl rfl, ⟨.inl rfl, ⟨.inl rfl, ⟨.inl rfl, ⟨.inl rfl, trivial⟩⟩⟩⟩⟩⟩⟩⟩⟩⟩⟩⟩⟩ ?_
  refine ab_lconst C dX10_actIs_0 (v := 1) rfl ?_
  refine ab_lstore C dX10_actIs_1 (Nat.le_of_ble_eq_true rfl) ?_
  refine ab_iconst C dX10_actIs_3 (v := 0) rfl ?_
  refine ab_istore C dX10_actIs_4 (Nat.le_of_ble_eq_true rfl) ?_
  refine ab_iconst C dX10_actIs_6 (v := 0) rfl ?_
  refine ab_istore C dX10_actIs_7 (Nat.le_of_ble_eq_true rfl) ?_
  refine ab_weak (lv' := [some (.inr (.inr (0, 0))), some (.inl x1), some (.inl x2), some (.inl x3), some (.inl x4), some (.inl x5), some (.inl x6), some (.inr (.inl 1)), none, some (.inl 0), some (.inl 0), none, none]) ⟨.inr rfl, ⟨.inr rfl, ⟨.inr rfl, ⟨.inr rfl, ⟨.inr rfl, ⟨.inr rfl, ⟨.inr rfl, ⟨.inr rfl, ⟨.inl rfl, ⟨.inr rfl, ⟨.inr rfl, ⟨.inl rfl, ⟨.inl rfl, trivial⟩⟩⟩⟩⟩⟩⟩⟩⟩⟩⟩⟩⟩ ?_
  refine ab_iconst C dX10_actIs_9 (v := 0) rfl ?_
  refine ab_istore C dX10_actIs_10 (Nat.le_of_ble_eq_true rfl) ?_
  refine ab_weak (lv' := [some (.inr (.inr (0, 0))), some (.inl x1), some (.inl x2), some (.inl x3), some (.inl x4), some (.inl x5), some (.inl x6), some (.inr (.inl 1)), none, some (.inl 0), some (.inl 0), some (.inl 0), none]) ⟨.inr rfl, ⟨.inr rfl, ⟨.inr rfl, ⟨.inr rfl, ⟨.inr rfl, ⟨.inr rfl, ⟨.inr rfl, ⟨.inr rfl, ⟨.inl rfl, ⟨.inr rfl, ⟨.inr rfl, ⟨.inr rfl, ⟨.inl rfl, trivial⟩⟩⟩⟩⟩⟩⟩⟩⟩⟩⟩⟩⟩ ?_
  exact gX10_actIs_b12 C ab_N _ _ _ _ _ _ _ _ _ _ _ h
end
def fX10_allWeights_b4_o (kk4 : Int32 → Int32 → ab_S → Option Int32) (v1 : Int32) (v2 : Int32) (σ : ab_S) : Option Int32 := (if (σ.1 0 0 6) ≤ v2 then some v1 else (if ab_inb v2 7 = true then kk4 (v1 + (σ.1 1 0 v2.toNatClampNeg)) (v2 + 1) σ else none))
def fX10_allWeights_b4 : Nat → Int32 → Int32 → ab_S → Option Int32
  | 0 => fun _ _ _ => none
  | n + 1 => fX10_allWeights_b4_o  (fX10_allWeights_b4 n)
def fX10_allWeights (σ : ab_S) : Option Int32 := fX10_allWeights_b4 ab_N 0 0 σ
section
variable {p : Program} {l : Launch} {e : Env} {s : State} {m : MethodId} {args : Array Value} {below : List Frame} {meth : Method} {c : Code} {D : va_G} {cA : Nat → ClassId} {ad : Nat → Nat → Nat}
set_option maxRecDepth 100000 in
set_option maxHeartbeats 4000000 in
theorem gX10_allWeights_b4_o {R : Int32} (C : ab_C yM p s m args meth c D cA ad cX10_allWeights 3 RX10 (some .int)) (σ : ab_S) {kk4 : Int32 → Int32 → ab_S → Option Int32} (hk4 : ∀ (v1 : Int32) (v2 : Int32), kk4 v1 v2 σ = some R → ab_G yM p l e s m args below meth c D cA ad 3 0 (some (.inl R)) σ 4 [some (.inr (.inr (0, 0))), some (.inl v1), some (.inl v2)] [] σ) (v1 : Int32) (v2 : Int32) (h : fX10_allWeights_b4_o kk4 v1 v2 σ = some R) : ab_G yM p l e s m args below meth c D cA ad 3 0 (some (.inl R)) σ 4 [some (.inr (.inr (0, 0))), some (.inl v1), some (.inl v2)] [] σ := by
  refine ab_iload_n C dX10_allWeights_4 rfl ?_
  refine ab_aload_n C dX10_allWeights_5 rfl ?_
  refine ab_getI C dX10_allWeights_6 flX10_86 rkM_0 rfl mmM_0 ?_
  refine ab_icmp_ge C (tgt := 27) dX10_allWeights_9 (by decide) (fun hc1 => ?_) (fun hc1 => ?_)
  · replace h := ab_pos hc1 h
    refine ab_iload_n C dX10_allWeights_27 rfl ?_
    obtain rfl := Option.some.inj h
    exact ab_iret C dX10_allWeights_28
  · replace h := ab_neg hc1 h
    refine ab_iload_n C dX10_allWeights_12 rfl ?_
    refine ab_aload_n C dX10_allWeights_13 rfl ?_
    refine ab_getR C dX10_allWeights_14 flX10_11 rkM_0 rfl mmM_0 ?_
    refine ab_iload_n C dX10_allWeights_17 rfl ?_
    obtain ⟨hg2, h⟩ := ab_grd h
    refine ab_iald C dX10_allWeights_18 rkM_1 mmM_1 hg2 ?_
    refine ab_iadd C dX10_allWeights_19  ?_
    refine ab_istore_n C dX10_allWeights_20 (Nat.le_of_ble_eq_true rfl) ?_
    refine ab_iinc C dX10_allWeights_21 rfl (v := 1) rfl (Nat.le_of_ble_eq_true rfl) ?_
    refine ab_goto C (tgt := 4) dX10_allWeights_24 (by decide) ?_
    refine ab_weak (lv' := [some (.inr (.inr (0, 0))), some (.inl (v1 + (σ.1 1 0 v2.toNatClampNeg))), some (.inl (v2 + 1))]) ⟨.inr rfl, ⟨.inr rfl, ⟨.inr rfl, trivial⟩⟩⟩ ?_
    exact hk4 _ _ h
theorem gX10_allWeights_b4 {R : Int32} (C : ab_C yM p s m args meth c D cA ad cX10_allWeights 3 RX10 (some .int)) (σ : ab_S) : ∀ (j : Nat) (v1 : Int32) (v2 : Int32), fX10_allWeights_b4 j v1 v2 σ = some R → ab_G yM p l e s m args below meth c D cA ad 3 0 (some (.inl R)) σ 4 [some (.inr (.inr (0, 0))), some (.inl v1), some (.inl v2)] [] σ := by
  intro j
  induction j with
  | zero => intro v1 v2  h; cases h
  | succ j ih => intro v1 v2  h; exact gX10_allWeights_b4_o C σ ih _ _ h
set_option maxRecDepth 100000 in
set_option maxHeartbeats 4000000 in
theorem tX10_allWeights (l : Launch) (σ : ab_S) {R : Int32} (h : fX10_allWeights σ = some R) : ab_M l yM yX10_allWeights cX10_allWeights 3 (some .int) 0 [.inr (.inr (0, 0))] σ (some (.inl R)) σ := by
  refine ab_M_intro ndM (by decide) (Nat.le_of_ble_eq_true rfl) ?_
  intro p e s m args below meth c D cA ad C
  have C : ab_C yM p s m args meth c D cA ad cX10_allWeights 3 RX10 (some .int) := C
  refine ab_weak (lv' := [some (.inr (.inr (0, 0))), none, none]) ⟨.inr rfl, ⟨.inl rfl, ⟨.inl rfl, trivial⟩⟩⟩ ?_
  refine ab_iconst C dX10_allWeights_0 (v := 0) rfl ?_
  refine ab_istore_n C dX10_allWeights_1 (Nat.le_of_ble_eq_true rfl) ?_
  refine ab_iconst C dX10_allWeights_2 (v := 0) rfl ?_
  refine ab_istore_n C dX10_allWeights_3 (Nat.le_of_ble_eq_true rfl) ?_
  refine ab_weak (lv' := [some (.inr (.inr (0, 0))), some (.inl 0), some (.inl 0)]) ⟨.inr rfl, ⟨.inr rfl, ⟨.inr rfl, trivial⟩⟩⟩ ?_
  exact gX10_allWeights_b4 C _ ab_N _ _ h
end
def fX10_anew (σ : ab_S) : Option (Int32 × ab_S) := ab_k (ab_si σ 0 0 9 0) fun σ1 => some (σ.1 0 0 9, σ1)
section
variable {p : Program} {l : Launch} {e : Env} {s : State} {m : MethodId} {args : Array Value} {below : List Frame} {meth : Method} {c : Code} {D : va_G} {cA : Nat → ClassId} {ad : Nat → Nat → Nat}
set_option maxRecDepth 100000 in
set_option maxHeartbeats 4000000 in
theorem tX10_anew (l : Launch) (σ : ab_S) {R : (Int32 × ab_S)} (h : fX10_anew σ = some R) : ab_M l yM yX10_anew cX10_anew 2 (some .int) 0 [.inr (.inr (0, 0))] σ (some (.inl R.1)) R.2 := by
  refine ab_M_intro ndM (by decide) (Nat.le_of_ble_eq_true rfl) ?_
  intro p e s m args below meth c D cA ad C
  have C : ab_C yM p s m args meth c D cA ad cX10_anew 2 RX10 (some .int) := C
  refine ab_weak (lv' := [some (.inr (.inr (0, 0))), none]) ⟨.inr rfl, ⟨.inl rfl, trivial⟩⟩ ?_
  refine ab_aload_n C dX10_anew_0 rfl ?_
  refine ab_getI C dX10_anew_1 flX10_93 rkM_0 rfl mmM_0 ?_
  refine ab_istore_n C dX10_anew_4 (Nat.le_of_ble_eq_true rfl) ?_
  refine ab_aload_n C dX10_anew_5 rfl ?_
  refine ab_iconst C dX10_anew_6 (v := 0) rfl ?_
  refine ab_putI C dX10_anew_7 fpX10_93 rkM_0 rfl mmM_0 rfl rfl ?_
  refine ab_nmS (fun σ1 eσ1 => ?_)
  replace h := ab_kh eσ1 h
  refine ab_iload_n C dX10_anew_10 rfl ?_
  obtain rfl := Option.some.inj h
  exact ab_iret C dX10_anew_11
end
def fX10_isDoor (x1 : Int64) (σ : ab_S) : Option Int32 := (fX10_within x1 0 (((σ.1 0 0 6) - 1 : Int32).toInt64)).bind fun q1 => (if ab_isb q1 = true then some q1 else none)
section
variable {p : Program} {l : Launch} {e : Env} {s : State} {m : MethodId} {args : Array Value} {below : List Frame} {meth : Method} {c : Code} {D : va_G} {cA : Nat → ClassId} {ad : Nat → Nat → Nat}
set_option maxRecDepth 100000 in
set_option maxHeartbeats 4000000 in
theorem tX10_isDoor (l : Launch) (x1 : Int64) (σ : ab_S) {R : Int32} (h : fX10_isDoor x1 σ = some R) : ab_M l yM yX10_isDoor cX10_isDoor 3 (some .boolean) 1 [.inr (.inr (0, 0)), .inr (.inl x1)] σ (some (.inl R)) σ := by
  refine ab_M_intro ndM (by decide) (Nat.le_of_ble_eq_true rfl) ?_
  intro p e s m args below meth c D cA ad C
  have C : ab_C yM p s m args meth c D cA ad cX10_isDoor 3 RX10 (some .boolean) := C
  refine ab_weak (lv' := [some (.inr (.inr (0, 0))), some (.inr (.inl x1)), none]) ⟨.inr rfl, ⟨.inr rfl, ⟨.inl rfl, trivial⟩⟩⟩ ?_
  refine ab_lload_n C dX10_isDoor_0 rfl ?_
  refine ab_lconst C dX10_isDoor_1 (v := 0) rfl ?_
  refine ab_aload_n C dX10_isDoor_2 rfl ?_
  refine ab_getI C dX10_isDoor_3 flX10_86 rkM_0 rfl mmM_0 ?_
  refine ab_iconst C dX10_isDoor_6 (v := 1) rfl ?_
  refine ab_isub C dX10_isDoor_7  ?_
  refine ab_i2l C dX10_isDoor_8  ?_
  obtain ⟨q1, hq1, h⟩ := ab_bind h
  refine ab_invS1 C dX10_isDoor_9 mlX10_105 ysX10_within (tX10_within l _ _ _ _ hq1) (Nat.le_of_ble_eq_true rfl) (Nat.le_of_ble_eq_true rfl) rfl (Nat.le_of_ble_eq_true rfl) ?_
  obtain ⟨hg2, h⟩ := ab_grd h
  obtain rfl := Option.some.inj h
  exact ab_zret C dX10_isDoor_12 hg2
end
def fX10_threeBy_b42 (σ : ab_S) : Option (Int64 × ab_S) := some (0, σ)
def fX10_threeBy (x1 : Int32) (x2 : Int64) (x4 : Int64) (x6 : Int64) (σ : ab_S) : Option (Int64 × ab_S) := (fX10_isDoor x2 σ).bind fun q1 => (if q1 = 0 then fX10_threeBy_b42 σ else (fX10_within x4 ((-1)) (((σ.1 0 0 6) - 1 : Int32).toInt64)).bind fun q3 => (if q3 = 0 then fX10_threeBy_b42 σ else (fX10_isDoor x6 σ).bind fun q5 => (if q5 = 0 then fX10_threeBy_b42 σ else (if (lg_cmp x4 x2) = 0 then fX10_threeBy_b42 σ else (fX10_actIs x1 ((x6 : Int64).toInt32) ((x2 : Int64).toInt32) 0 0 ((x4 : Int64).toInt32) σ).bind fun q8 => some (q8.1, q8.2)))))
section
variable {p : Program} {l : Launch} {e : Env} {s : State} {m : MethodId} {args : Array Value} {below : List Frame} {meth : Method} {c : Code} {D : va_G} {cA : Nat → ClassId} {ad : Nat → Nat → Nat}
set_option maxRecDepth 100000 in
set_option maxHeartbeats 4000000 in
theorem gX10_threeBy_b42 {R : (Int64 × ab_S)} (C : ab_C yM p s m args meth c D cA ad cX10_threeBy 8 RX10 (some .long)) (σ : ab_S) (h : fX10_threeBy_b42 σ = some R) : ab_G yM p l e s m args below meth c D cA ad 8 70 (some (.inr (.inl R.1))) R.2 42 [none, none, none, none, none, none, none, none] [] σ := by
  refine ab_lconst C dX10_threeBy_42 (v := 0) rfl ?_
  obtain rfl := Option.some.inj h
  exact ab_lret C dX10_threeBy_43
set_option maxRecDepth 100000 in
set_option maxHeartbeats 4000000 in
theorem tX10_threeBy (l : Launch) (x1 : Int32) (x2 : Int64) (x4 : Int64) (x6 : Int64) (σ : ab_S) {R : (Int64 × ab_S)} (h : fX10_threeBy x1 x2 x4 x6 σ = some R) : ab_M l yM yX10_threeBy cX10_threeBy 8 (some .long) 70 [.inr (.inr (0, 0)), .inl x1, .inr (.inl x2), .inr (.inl x4), .inr (.inl x6)] σ (some (.inr (.inl R.1))) R.2 := by
  refine ab_M_intro ndM (by decide) (Nat.le_of_ble_eq_true rfl) ?_
  intro p e s m args below meth c D cA ad C
  have C : ab_C yM p s m args meth c D cA ad cX10_threeBy 8 RX10 (some .long) := C
  refine ab_weak (lv' := [some (.inr (.inr (0, 0))), some (.inl x1), some (.inr (.inl x2)), none, some (.inr (.inl x4)), none, some (.inr (.inl x6)), none]) ⟨.inr rfl, ⟨.inr rfl, ⟨.inr rfl, ⟨.inl rfl, ⟨.inr rfl, ⟨.inl rfl, ⟨.inr rfl, ⟨.inl rfl, trivial⟩⟩⟩⟩⟩⟩⟩⟩ ?_
  refine ab_aload_n C dX10_threeBy_0 rfl ?_
  refine ab_lload_n C dX10_threeBy_1 rfl ?_
  obtain ⟨q1, hq1, h⟩ := ab_bind h
  refine ab_inv1 C dX10_threeBy_2 mlX10_117 yvX10_isDoor rkM_0 ⟨_, _, rfl⟩ mmM_0 (tX10_isDoor l _ _ hq1) (Nat.le_of_ble_eq_true rfl) (Nat.le_of_ble_eq_true rfl) rfl (Nat.le_of_ble_eq_true rfl) ?_
  refine ab_if_eq C (tgt := 42) dX10_threeBy_5 (by decide) (fun hc2 => ?_) (fun hc2 => ?_)
  · replace h := ab_pos hc2 h
    refine ab_weak (lv' := [none, none, none, none, none, none, none, none]) ⟨.inl rfl, ⟨.inl rfl, ⟨.inl rfl, ⟨.inl rfl, ⟨.inl rfl, ⟨.inl rfl, ⟨.inl rfl, ⟨.inl rfl, trivial⟩⟩⟩⟩⟩⟩⟩⟩ ?_
    exact gX10_threeBy_b42 C _ h
  · replace h := ab_neg hc2 h
    refine ab_lload C dX10_threeBy_8 rfl ?_
    refine ab_ldc2 C dX10_threeBy_10 cwX10_271 ?_
    refine ab_aload_n C dX10_threeBy_13 rfl ?_
    refine ab_getI C dX10_threeBy_14 flX10_86 rkM_0 rfl mmM_0 ?_
    refine ab_iconst C dX10_threeBy_17 (v := 1) rfl ?_
    refine ab_isub C dX10_threeBy_18  ?_
    refine ab_i2l C dX10_threeBy_19  ?_
    obtain ⟨q3, hq3, h⟩ := ab_bind h
    refine ab_invS1 C dX10_threeBy_20 mlX10_105 ysX10_within (tX10_within l _ _ _ _ hq3) (Nat.le_of_ble_eq_true rfl) (Nat.le_of_ble_eq_true rfl) rfl (Nat.le_of_ble_eq_true rfl) ?_
    refine ab_if_eq C (tgt := 42) dX10_threeBy_23 (by decide) (fun hc4 => ?_) (fun hc4 => ?_)
    · replace h := ab_pos hc4 h
      refine ab_weak (lv' := [none, none, none, none, none, none, none, none]) ⟨.inl rfl, ⟨.inl rfl, ⟨.inl rfl, ⟨.inl rfl, ⟨.inl rfl, ⟨.inl rfl, ⟨.inl rfl, ⟨.inl rfl, trivial⟩⟩⟩⟩⟩⟩⟩⟩ ?_
      exact gX10_threeBy_b42 C _ h
    · replace h := ab_neg hc4 h
      refine ab_aload_n C dX10_threeBy_26 rfl ?_
      refine ab_lload C dX10_threeBy_27 rfl ?_
      obtain ⟨q5, hq5, h⟩ := ab_bind h
      refine ab_inv1 C dX10_threeBy_29 mlX10_117 yvX10_isDoor rkM_0 ⟨_, _, rfl⟩ mmM_0 (tX10_isDoor l _ _ hq5) (Nat.le_of_ble_eq_true rfl) (Nat.le_of_ble_eq_true rfl) rfl (Nat.le_of_ble_eq_true rfl) ?_
      refine ab_if_eq C (tgt := 42) dX10_threeBy_32 (by decide) (fun hc6 => ?_) (fun hc6 => ?_)
      · replace h := ab_pos hc6 h
        refine ab_weak (lv' := [none, none, none, none, none, none, none, none]) ⟨.inl rfl, ⟨.inl rfl, ⟨.inl rfl, ⟨.inl rfl, ⟨.inl rfl, ⟨.inl rfl, ⟨.inl rfl, ⟨.inl rfl, trivial⟩⟩⟩⟩⟩⟩⟩⟩ ?_
        exact gX10_threeBy_b42 C _ h
      · replace h := ab_neg hc6 h
        refine ab_lload C dX10_threeBy_35 rfl ?_
        refine ab_lload_n C dX10_threeBy_37 rfl ?_
        refine ab_lcmp C dX10_threeBy_38  ?_
        refine ab_if_ne C (tgt := 44) dX10_threeBy_39 (by decide) (fun hc7 => ?_) (fun hc7 => ?_)
        · replace h := ab_neg hc7 h
          refine ab_aload_n C dX10_threeBy_44 rfl ?_
          refine ab_iload_n C dX10_threeBy_45 rfl ?_
          refine ab_lload C dX10_threeBy_46 rfl ?_
          refine ab_l2i C dX10_threeBy_48  ?_
          refine ab_lload_n C dX10_threeBy_49 rfl ?_
          refine ab_l2i C dX10_threeBy_50  ?_
          refine ab_iconst C dX10_threeBy_51 (v := 0) rfl ?_
          refine ab_iconst C dX10_threeBy_52 (v := 0) rfl ?_
          refine ab_lload C dX10_threeBy_53 rfl ?_
          refine ab_l2i C dX10_threeBy_55  ?_
          obtain ⟨q8, hq8, h⟩ := ab_bind h
          refine ab_inv1 C dX10_threeBy_56 mlX10_213 yvX10_actIs rkM_0 ⟨_, _, rfl⟩ mmM_0 (tX10_actIs l _ _ _ _ _ _ _ hq8) (Nat.le_of_ble_eq_true rfl) (Nat.le_of_ble_eq_true rfl) rfl (Nat.le_of_ble_eq_true rfl) ?_
          obtain rfl := Option.some.inj h
          exact ab_lret C dX10_threeBy_59
        · replace h := ab_pos hc7 h
          refine ab_weak (lv' := [none, none, none, none, none, none, none, none]) ⟨.inl rfl, ⟨.inl rfl, ⟨.inl rfl, ⟨.inl rfl, ⟨.inl rfl, ⟨.inl rfl, ⟨.inl rfl, ⟨.inl rfl, trivial⟩⟩⟩⟩⟩⟩⟩⟩ ?_
          exact gX10_threeBy_b42 C _ h
end
def fX10_apart_b191 (kk153 : Int64 → Int64 → Int64 → Int64 → Int32 → ab_S → Option (Int32 × ab_S)) (v5 : Int64) (v7 : Int64) (v9 : Int64) (v11 : Int64) (v13 : Int32) (σ : ab_S) : Option (Int32 × ab_S) := kk153 v5 v7 v9 v11 (v13 + 1) σ
def fX10_apart_b153_o (kk153 : Int64 → Int64 → Int64 → Int64 → Int32 → ab_S → Option (Int32 × ab_S)) (v5 : Int64) (v7 : Int64) (v9 : Int64) (v11 : Int64) (v13 : Int32) (σ : ab_S) : Option (Int32 × ab_S) := (if 4 < v13 then some ((-2), σ) else (if (lg_cmp v5 0) ≤ 0 then fX10_apart_b191 kk153 v5 v7 (v9 * v5) (v11 * v7) v13 σ else (if (lg_cmp (v9 * v5) (v11 * v7)) < 0 then fX10_apart_b191 kk153 v5 v7 (v9 * v5) (v11 * v7) v13 σ else some (v13, σ))))
def fX10_apart_b153 : Nat → Int64 → Int64 → Int64 → Int64 → Int32 → ab_S → Option (Int32 × ab_S)
  | 0 => fun _ _ _ _ _ _ => none
  | n + 1 => fX10_apart_b153_o  (fX10_apart_b153 n)
def fX10_apart_b89 (v1 : Int32) (v2 : Int32) (v3 : Int32) (t0 : Int32) (σ : ab_S) : Option (Int32 × ab_S) := (if t0 = 0 then some ((-1), σ) else (fX10_threeBy (v1 / 10) ((v2 / 100 : Int32).toInt64) ((v3 : Int32).toInt64) ((ab_mod v2 10 : Int32).toInt64) σ).bind fun q2 => (fX10_threeBy (ab_mod v1 10) ((v2 / 100 : Int32).toInt64) ((v3 : Int32).toInt64) ((ab_mod v2 10 : Int32).toInt64) q2.2).bind fun q3 => fX10_apart_b153 ab_N q2.1 q3.1 1 12 1 q3.2)
def fX10_apart_b88 (v1 : Int32) (v2 : Int32) (v3 : Int32) (σ : ab_S) : Option (Int32 × ab_S) := fX10_apart_b89 v1 v2 v3 0 σ
def fX10_apart (x1 : Int32) (x2 : Int32) (σ : ab_S) : Option (Int32 × ab_S) := (if x1 < 0 then fX10_apart_b88 x1 x2 (ab_mod (x2 / 10) 10) σ else (if 4 ≤ (x1 / 10) then fX10_apart_b88 x1 x2 (ab_mod (x2 / 10) 10) σ else (if 4 ≤ (ab_mod x1 10) then fX10_apart_b88 x1 x2 (ab_mod (x2 / 10) 10) σ else (if (x1 / 10) = (ab_mod x1 10) then fX10_apart_b88 x1 x2 (ab_mod (x2 / 10) 10) σ else (if x2 < 0 then fX10_apart_b88 x1 x2 (ab_mod (x2 / 10) 10) σ else (fX10_isDoor ((x2 / 100 : Int32).toInt64) σ).bind fun q6 => (if q6 = 0 then fX10_apart_b88 x1 x2 (ab_mod (x2 / 10) 10) σ else (fX10_isDoor ((ab_mod (x2 / 10) 10 : Int32).toInt64) σ).bind fun q8 => (if q8 = 0 then fX10_apart_b88 x1 x2 (ab_mod (x2 / 10) 10) σ else (fX10_isDoor ((ab_mod x2 10 : Int32).toInt64) σ).bind fun q10 => (if q10 = 0 then fX10_apart_b88 x1 x2 (ab_mod (x2 / 10) 10) σ else (if (ab_mod (x2 / 10) 10) = (x2 / 100) then fX10_apart_b88 x1 x2 (ab_mod (x2 / 10) 10) σ else fX10_apart_b89 x1 x2 (ab_mod (x2 / 10) 10) 1 σ)))))))))
section
variable {p : Program} {l : Launch} {e : Env} {s : State} {m : MethodId} {args : Array Value} {below : List Frame} {meth : Method} {c : Code} {D : va_G} {cA : Nat → ClassId} {ad : Nat → Nat → Nat}
set_option maxRecDepth 100000 in
set_option maxHeartbeats 4000000 in
theorem gX10_apart_b191 {R : (Int32 × ab_S)} (C : ab_C yM p s m args meth c D cA ad cX10_apart 14 RX10 (some .int)) {kk153 : Int64 → Int64 → Int64 → Int64 → Int32 → ab_S → Option (Int32 × ab_S)} (hk153 : ∀ (v5 : Int64) (v7 : Int64) (v9 : Int64) (v11 : Int64) (v13 : Int32) (σ : ab_S), kk153 v5 v7 v9 v11 v13 σ = some R → ab_G yM p l e s m args below meth c D cA ad 14 71 (some (.inl R.1)) R.2 153 [none, none, none, none, none, some (.inr (.inl v5)), none, some (.inr (.inl v7)), none, some (.inr (.inl v9)), none, some (.inr (.inl v11)), none, some (.inl v13)] [] σ) (v5 : Int64) (v7 : Int64) (v9 : Int64) (v11 : Int64) (v13 : Int32) (σ : ab_S) (h : fX10_apart_b191 kk153 v5 v7 v9 v11 v13 σ = some R) : ab_G yM p l e s m args below meth c D cA ad 14 71 (some (.inl R.1)) R.2 191 [none, none, none, none, none, some (.inr (.inl v5)), none, some (.inr (.inl v7)), none, some (.inr (.inl v9)), none, some (.inr (.inl v11)), none, some (.inl v13)] [] σ := by
  refine ab_iinc C dX10_apart_191 rfl (v := 1) rfl (Nat.le_of_ble_eq_true rfl) ?_
  refine ab_goto C (tgt := 153) dX10_apart_194 (by decide) ?_
  refine ab_weak (lv' := [none, none, none, none, none, some (.inr (.inl v5)), none, some (.inr (.inl v7)), none, some (.inr (.inl v9)), none, some (.inr (.inl v11)), none, some (.inl (v13 + 1))]) ⟨.inl rfl, ⟨.inl rfl, ⟨.inl rfl, ⟨.inl rfl, ⟨.inl rfl, ⟨.inr rfl, ⟨.inl rfl, ⟨.inr rfl, ⟨.inl rfl, ⟨.inr rfl, ⟨.inl rfl, ⟨.inr rfl, ⟨.inl rfl, ⟨.inr rfl, trivial⟩⟩⟩⟩⟩⟩⟩⟩⟩⟩⟩⟩⟩⟩ ?_
  exact hk153 _ _ _ _ _ _ h
set_option maxRecDepth 100000 in
set_option maxHeartbeats 4000000 in
theorem gX10_apart_b153_o {R : (Int32 × ab_S)} (C : ab_C yM p s m args meth c D cA ad cX10_apart 14 RX10 (some .int)) {kk153 : Int64 → Int64 → Int64 → Int64 → Int32 → ab_S → Option (Int32 × ab_S)} (hk153 : ∀ (v5 : Int64) (v7 : Int64) (v9 : Int64) (v11 : Int64) (v13 : Int32) (σ : ab_S), kk153 v5 v7 v9 v11 v13 σ = some R → ab_G yM p l e s m args below meth c D cA ad 14 71 (some (.inl R.1)) R.2 153 [none, none, none, none, none, some (.inr (.inl v5)), none, some (.inr (.inl v7)), none, some (.inr (.inl v9)), none, some (.inr (.inl v11)), none, some (.inl v13)] [] σ) (v5 : Int64) (v7 : Int64) (v9 : Int64) (v11 : Int64) (v13 : Int32) (σ : ab_S) (h : fX10_apart_b153_o kk153 v5 v7 v9 v11 v13 σ = some R) : ab_G yM p l e s m args below meth c D cA ad 14 71 (some (.inl R.1)) R.2 153 [none, none, none, none, none, some (.inr (.inl v5)), none, some (.inr (.inl v7)), none, some (.inr (.inl v9)), none, some (.inr (.inl v11)), none, some (.inl v13)] [] σ := by
  refine ab_iload C dX10_apart_153 rfl ?_
  refine ab_iconst C dX10_apart_155 (v := 4) rfl ?_
  refine ab_icmp_gt C (tgt := 197) dX10_apart_156 (by decide) (fun hc1 => ?_) (fun hc1 => ?_)
  · replace h := ab_pos hc1 h
    refine ab_bipush C dX10_apart_197 (v := (-2)) rfl ?_
    obtain rfl := Option.some.inj h
    exact ab_iret C dX10_apart_199
  · replace h := ab_neg hc1 h
    refine ab_lload C dX10_apart_159 rfl ?_
    refine ab_lload C dX10_apart_161 rfl ?_
    refine ab_lmul C dX10_apart_163  ?_
    refine ab_lstore C dX10_apart_164 (Nat.le_of_ble_eq_true rfl) ?_
    refine ab_lload C dX10_apart_166 rfl ?_
    refine ab_lload C dX10_apart_168 rfl ?_
    refine ab_lmul C dX10_apart_170  ?_
    refine ab_lstore C dX10_apart_171 (Nat.le_of_ble_eq_true rfl) ?_
    refine ab_lload C dX10_apart_173 rfl ?_
    refine ab_lconst C dX10_apart_175 (v := 0) rfl ?_
    refine ab_lcmp C dX10_apart_176  ?_
    refine ab_if_le C (tgt := 191) dX10_apart_177 (by decide) (fun hc2 => ?_) (fun hc2 => ?_)
    · replace h := ab_pos hc2 h
      refine ab_weak (lv' := [none, none, none, none, none, some (.inr (.inl v5)), none, some (.inr (.inl v7)), none, some (.inr (.inl (v9 * v5))), none, some (.inr (.inl (v11 * v7))), none, some (.inl v13)]) ⟨.inl rfl, ⟨.inl rfl, ⟨.inl rfl, ⟨.inl rfl, ⟨.inl rfl, ⟨.inr rfl, ⟨.inl rfl, ⟨.inr rfl, ⟨.inl rfl, ⟨.inr rfl, ⟨.inl rfl, ⟨.inr rfl, ⟨.inl rfl, ⟨.inr rfl, trivial⟩⟩⟩⟩⟩⟩⟩⟩⟩⟩⟩⟩⟩⟩ ?_
      exact gX10_apart_b191 C hk153 _ _ _ _ _ _ h
    · replace h := ab_neg hc2 h
      refine ab_lload C dX10_apart_180 rfl ?_
      refine ab_lload C dX10_apart_182 rfl ?_
      refine ab_lcmp C dX10_apart_184  ?_
      refine ab_if_lt C (tgt := 191) dX10_apart_185 (by decide) (fun hc3 => ?_) (fun hc3 => ?_)
      · replace h := ab_pos hc3 h
        refine ab_weak (lv' := [none, none, none, none, none, some (.inr (.inl v5)), none, some (.inr (.inl v7)), none, some (.inr (.inl (v9 * v5))), none, some (.inr (.inl (v11 * v7))), none, some (.inl v13)]) ⟨.inl rfl, ⟨.inl rfl, ⟨.inl rfl, ⟨.inl rfl, ⟨.inl rfl, ⟨.inr rfl, ⟨.inl rfl, ⟨.inr rfl, ⟨.inl rfl, ⟨.inr rfl, ⟨.inl rfl, ⟨.inr rfl, ⟨.inl rfl, ⟨.inr rfl, trivial⟩⟩⟩⟩⟩⟩⟩⟩⟩⟩⟩⟩⟩⟩ ?_
        exact gX10_apart_b191 C hk153 _ _ _ _ _ _ h
      · replace h := ab_neg hc3 h
        refine ab_iload C dX10_apart_188 rfl ?_
        obtain rfl := Option.some.inj h
        exact ab_iret C dX10_apart_190
theorem gX10_apart_b153 {R : (Int32 × ab_S)} (C : ab_C yM p s m args meth c D cA ad cX10_apart 14 RX10 (some .int)) : ∀ (j : Nat) (v5 : Int64) (v7 : Int64) (v9 : Int64) (v11 : Int64) (v13 : Int32) (σ : ab_S), fX10_apart_b153 j v5 v7 v9 v11 v13 σ = some R → ab_G yM p l e s m args below meth c D cA ad 14 71 (some (.inl R.1)) R.2 153 [none, none, none, none, none, some (.inr (.inl v5)), none, some (.inr (.inl v7)), none, some (.inr (.inl v9)), none, some (.inr (.inl v11)), none, some (.inl v13)] [] σ := by
  intro j
  induction j with
  | zero => intro v5 v7 v9 v11 v13 σ  h; cases h
  | succ j ih => intro v5 v7 v9 v11 v13 σ  h; exact gX10_apart_b153_o C ih _ _ _ _ _ _ h
set_option maxRecDepth 100000 in
set_option maxHeartbeats 4000000 in
theorem gX10_apart_b89 {R : (Int32 × ab_S)} (C : ab_C yM p s m args meth c D cA ad cX10_apart 14 RX10 (some .int)) (v1 : Int32) (v2 : Int32) (v3 : Int32) (t0 : Int32) (σ : ab_S) (h : fX10_apart_b89 v1 v2 v3 t0 σ = some R) : ab_G yM p l e s m args below meth c D cA ad 14 71 (some (.inl R.1)) R.2 89 [some (.inr (.inr (0, 0))), some (.inl v1), some (.inl v2), some (.inl v3), none, none, none, none, none, none, none, none, none, none] [.inl t0] σ := by
  refine ab_istore C dX10_apart_89 (Nat.le_of_ble_eq_true rfl) ?_
  refine ab_iload C dX10_apart_91 rfl ?_
  refine ab_if_ne C (tgt := 98) dX10_apart_93 (by decide) (fun hc1 => ?_) (fun hc1 => ?_)
  · replace h := ab_neg hc1 h
    refine ab_aload_n C dX10_apart_98 rfl ?_
    refine ab_iload_n C dX10_apart_99 rfl ?_
    refine ab_bipush C dX10_apart_100 (v := 10) rfl ?_
    refine ab_idiv C dX10_apart_102 (by decide) ?_
    refine ab_iload_n C dX10_apart_103 rfl ?_
    refine ab_bipush C dX10_apart_104 (v := 100) rfl ?_
    refine ab_idiv C dX10_apart_106 (by decide) ?_
    refine ab_i2l C dX10_apart_107  ?_
    refine ab_iload_n C dX10_apart_108 rfl ?_
    refine ab_i2l C dX10_apart_109  ?_
    refine ab_iload_n C dX10_apart_110 rfl ?_
    refine ab_bipush C dX10_apart_111 (v := 10) rfl ?_
    refine ab_irem C dX10_apart_113 (by decide) ?_
    refine ab_i2l C dX10_apart_114  ?_
    obtain ⟨q2, hq2, h⟩ := ab_bind h
    refine ab_inv1 C dX10_apart_115 mlX10_290 yvX10_threeBy rkM_0 ⟨_, _, rfl⟩ mmM_0 (tX10_threeBy l _ _ _ _ _ hq2) (Nat.le_of_ble_eq_true rfl) (Nat.le_of_ble_eq_true rfl) rfl (Nat.le_of_ble_eq_true rfl) ?_
    refine ab_lstore C dX10_apart_118 (Nat.le_of_ble_eq_true rfl) ?_
    refine ab_aload_n C dX10_apart_120 rfl ?_
    refine ab_iload_n C dX10_apart_121 rfl ?_
    refine ab_bipush C dX10_apart_122 (v := 10) rfl ?_
    refine ab_irem C dX10_apart_124 (by decide) ?_
    refine ab_iload_n C dX10_apart_125 rfl ?_
    refine ab_bipush C dX10_apart_126 (v := 100) rfl ?_
    refine ab_idiv C dX10_apart_128 (by decide) ?_
    refine ab_i2l C dX10_apart_129  ?_
    refine ab_iload_n C dX10_apart_130 rfl ?_
    refine ab_i2l C dX10_apart_131  ?_
    refine ab_iload_n C dX10_apart_132 rfl ?_
    refine ab_bipush C dX10_apart_133 (v := 10) rfl ?_
    refine ab_irem C dX10_apart_135 (by decide) ?_
    refine ab_i2l C dX10_apart_136  ?_
    obtain ⟨q3, hq3, h⟩ := ab_bind h
    refine ab_inv1 C dX10_apart_137 mlX10_290 yvX10_threeBy rkM_0 ⟨_, _, rfl⟩ mmM_0 (tX10_threeBy l _ _ _ _ _ hq3) (Nat.le_of_ble_eq_true rfl) (Nat.le_of_ble_eq_true rfl) rfl (Nat.le_of_ble_eq_true rfl) ?_
    refine ab_lstore C dX10_apart_140 (Nat.le_of_ble_eq_true rfl) ?_
    refine ab_weak (lv' := [some (.inr (.inr (0, 0))), some (.inl v1), some (.inl v2), some (.inl v3), some (.inl t0), some (.inr (.inl q2.1)), none, some (.inr (.inl q3.1)), none, none, none, none, none, none]) ⟨.inr rfl, ⟨.inr rfl, ⟨.inr rfl, ⟨.inr rfl, ⟨.inr rfl, ⟨.inr rfl, ⟨.inl rfl, ⟨.inr rfl, ⟨.inl rfl, ⟨.inl rfl, ⟨.inl rfl, ⟨.inl rfl, ⟨.inl rfl, ⟨.inl rfl, trivial⟩⟩⟩⟩⟩⟩⟩⟩⟩⟩⟩⟩⟩⟩ ?_
    refine ab_lconst C dX10_apart_142 (v := 1) rfl ?_
    refine ab_lstore C dX10_apart_143 (Nat.le_of_ble_eq_true rfl) ?_
    refine ab_ldc2 C dX10_apart_145 cwX10_121 ?_
    refine ab_lstore C dX10_apart_148 (Nat.le_of_ble_eq_true rfl) ?_
    refine ab_iconst C dX10_apart_150 (v := 1) rfl ?_
    refine ab_istore C dX10_apart_151 (Nat.le_of_ble_eq_true rfl) ?_
    refine ab_weak (lv' := [some (.inr (.inr (0, 0))), some (.inl v1), some (.inl v2), some (.inl v3), some (.inl t0), some (.inr (.inl q2.1)), none, some (.inr (.inl q3.1)), none, some (.inr (.inl 1)), none, some (.inr (.inl 12)), none, some (.inl 1)]) ⟨.inr rfl, ⟨.inr rfl, ⟨.inr rfl, ⟨.inr rfl, ⟨.inr rfl, ⟨.inr rfl, ⟨.inl rfl, ⟨.inr rfl, ⟨.inl rfl, ⟨.inr rfl, ⟨.inl rfl, ⟨.inr rfl, ⟨.inl rfl, ⟨.inr rfl, trivial⟩⟩⟩⟩⟩⟩⟩⟩⟩⟩⟩⟩⟩⟩ ?_
    refine ab_weak (lv' := [none, none, none, none, none, some (.inr (.inl q2.1)), none, some (.inr (.inl q3.1)), none, some (.inr (.inl 1)), none, some (.inr (.inl 12)), none, some (.inl 1)]) ⟨.inl rfl, ⟨.inl rfl, ⟨.inl rfl, ⟨.inl rfl, ⟨.inl rfl, ⟨.inr rfl, ⟨.inl rfl, ⟨.inr rfl, ⟨.inl rfl, ⟨.inr rfl, ⟨.inl rfl, ⟨.inr rfl, ⟨.inl rfl, ⟨.inr rfl, trivial⟩⟩⟩⟩⟩⟩⟩⟩⟩⟩⟩⟩⟩⟩ ?_
    exact gX10_apart_b153 C ab_N _ _ _ _ _ _ h
  · replace h := ab_pos hc1 h
    refine ab_iconst C dX10_apart_96 (v := (-1)) rfl ?_
    obtain rfl := Option.some.inj h
    exact ab_iret C dX10_apart_97
set_option maxRecDepth 100000 in
set_option maxHeartbeats 4000000 in
theorem gX10_apart_b88 {R : (Int32 × ab_S)} (C : ab_C yM p s m args meth c D cA ad cX10_apart 14 RX10 (some .int)) (v1 : Int32) (v2 : Int32) (v3 : Int32) (σ : ab_S) (h : fX10_apart_b88 v1 v2 v3 σ = some R) : ab_G yM p l e s m args below meth c D cA ad 14 71 (some (.inl R.1)) R.2 88 [some (.inr (.inr (0, 0))), some (.inl v1), some (.inl v2), some (.inl v3), none, none, none, none, none, none, none, none, none, none] [] σ := by
  refine ab_iconst C dX10_apart_88 (v := 0) rfl ?_
  refine ab_weak (lv' := [some (.inr (.inr (0, 0))), some (.inl v1), some (.inl v2), some (.inl v3), none, none, none, none, none, none, none, none, none, none]) ⟨.inr rfl, ⟨.inr rfl, ⟨.inr rfl, ⟨.inr rfl, ⟨.inl rfl, ⟨.inl rfl, ⟨.inl rfl, ⟨.inl rfl, ⟨.inl rfl, ⟨.inl rfl, ⟨.inl rfl, ⟨.inl rfl, ⟨.inl rfl, ⟨.inl rfl, trivial⟩⟩⟩⟩⟩⟩⟩⟩⟩⟩⟩⟩⟩⟩ ?_
  exact gX10_apart_b89 C _ _ _ _ _ h
set_option maxRecDepth 100000 in
set_option maxHeartbeats 4000000 in
theorem tX10_apart (l : Launch) (x1 : Int32) (x2 : Int32) (σ : ab_S) {R : (Int32 × ab_S)} (h : fX10_apart x1 x2 σ = some R) : ab_M l yM yX10_apart cX10_apart 14 (some .int) 71 [.inr (.inr (0, 0)), .inl x1, .inl x2] σ (some (.inl R.1)) R.2 := by
  refine ab_M_intro ndM (by decide) (Nat.le_of_ble_eq_true rfl) ?_
  intro p e s m args below meth c D cA ad C
  have C : ab_C yM p s m args meth c D cA ad cX10_apart 14 RX10 (some .int) := C
  refine ab_weak (lv' := [some (.inr (.inr (0, 0))), some (.inl x1), some (.inl x2), none, none, none, none, none, none, none, none, none, none, none]) ⟨.inr rfl, ⟨.inr rfl, ⟨.inr rfl, ⟨.inl rfl, ⟨.inl rfl, ⟨.inl rfl, ⟨.inl rfl, ⟨.inl rfl, ⟨.inl rfl, ⟨.inl rfl, ⟨.inl rfl, ⟨.inl rfl, ⟨.inl rfl, ⟨.inl rfl, trivial⟩⟩⟩⟩⟩⟩⟩⟩⟩⟩⟩⟩⟩⟩ ?_
  refine ab_iload_n C dX10_apart_0 rfl ?_
  refine ab_bipush C dX10_apart_1 (v := 10) rfl ?_
  refine ab_idiv C dX10_apart_3 (by decide) ?_
  refine ab_bipush C dX10_apart_4 (v := 10) rfl ?_
  refine ab_irem C dX10_apart_6 (by decide) ?_
  refine ab_istore_n C dX10_apart_7 (Nat.le_of_ble_eq_true rfl) ?_
  refine ab_iload_n C dX10_apart_8 rfl ?_
  refine ab_if_lt C (tgt := 88) dX10_apart_9 (by decide) (fun hc1 => ?_) (fun hc1 => ?_)
  · replace h := ab_pos hc1 h
    refine ab_weak (lv' := [some (.inr (.inr (0, 0))), some (.inl x1), some (.inl x2), some (.inl (ab_mod (x2 / 10) 10)), none, none, none, none, none, none, none, none, none, none]) ⟨.inr rfl, ⟨.inr rfl, ⟨.inr rfl, ⟨.inr rfl, ⟨.inl rfl, ⟨.inl rfl, ⟨.inl rfl, ⟨.inl rfl, ⟨.inl rfl, ⟨.inl rfl, ⟨.inl rfl, ⟨.inl rfl, ⟨.inl rfl, ⟨.inl rfl, trivial⟩⟩⟩⟩⟩⟩⟩⟩⟩⟩⟩⟩⟩⟩ ?_
    exact gX10_apart_b88 C _ _ _ _ h
  · replace h := ab_neg hc1 h
    refine ab_iload_n C dX10_apart_12 rfl ?_
    refine ab_bipush C dX10_apart_13 (v := 10) rfl ?_
    refine ab_idiv C dX10_apart_15 (by decide) ?_
    refine ab_iconst C dX10_apart_16 (v := 4) rfl ?_
    refine ab_icmp_ge C (tgt := 88) dX10_apart_17 (by decide) (fun hc2 => ?_) (fun hc2 => ?_)
    · replace h := ab_pos hc2 h
      refine ab_weak (lv' := [some (.inr (.inr (0, 0))), some (.inl x1), some (.inl x2), some (.inl (ab_mod (x2 / 10) 10)), none, none, none, none, none, none, none, none, none, none]) ⟨.inr rfl, ⟨.inr rfl, ⟨.inr rfl, ⟨.inr rfl, ⟨.inl rfl, ⟨.inl rfl, ⟨.inl rfl, ⟨.inl rfl, ⟨.inl rfl, ⟨.inl rfl, ⟨.inl rfl, ⟨.inl rfl, ⟨.inl rfl, ⟨.inl rfl, trivial⟩⟩⟩⟩⟩⟩⟩⟩⟩⟩⟩⟩⟩⟩ ?_
      exact gX10_apart_b88 C _ _ _ _ h
    · replace h := ab_neg hc2 h
      refine ab_iload_n C dX10_apart_20 rfl ?_
      refine ab_bipush C dX10_apart_21 (v := 10) rfl ?_
      refine ab_irem C dX10_apart_23 (by decide) ?_
      refine ab_iconst C dX10_apart_24 (v := 4) rfl ?_
      refine ab_icmp_ge C (tgt := 88) dX10_apart_25 (by decide) (fun hc3 => ?_) (fun hc3 => ?_)
      · replace h := ab_pos hc3 h
        refine ab_weak (lv' := [some (.inr (.inr (0, 0))), some (.inl x1), some (.inl x2), some (.inl (ab_mod (x2 / 10) 10)), none, none, none, none, none, none, none, none, none, none]) ⟨.inr rfl, ⟨.inr rfl, ⟨.inr rfl, ⟨.inr rfl, ⟨.inl rfl, ⟨.inl rfl, ⟨.inl rfl, ⟨.inl rfl, ⟨.inl rfl, ⟨.inl rfl, ⟨.inl rfl, ⟨.inl rfl, ⟨.inl rfl, ⟨.inl rfl, trivial⟩⟩⟩⟩⟩⟩⟩⟩⟩⟩⟩⟩⟩⟩ ?_
        exact gX10_apart_b88 C _ _ _ _ h
      · replace h := ab_neg hc3 h
        refine ab_iload_n C dX10_apart_28 rfl ?_
        refine ab_bipush C dX10_apart_29 (v := 10) rfl ?_
        refine ab_idiv C dX10_apart_31 (by decide) ?_
        refine ab_iload_n C dX10_apart_32 rfl ?_
        refine ab_bipush C dX10_apart_33 (v := 10) rfl ?_
        refine ab_irem C dX10_apart_35 (by decide) ?_
        refine ab_icmp_eq C (tgt := 88) dX10_apart_36 (by decide) (fun hc4 => ?_) (fun hc4 => ?_)
        · replace h := ab_pos hc4 h
          refine ab_weak (lv' := [some (.inr (.inr (0, 0))), some (.inl x1), some (.inl x2), some (.inl (ab_mod (x2 / 10) 10)), none, none, none, none, none, none, none, none, none, none]) ⟨.inr rfl, ⟨.inr rfl, ⟨.inr rfl, ⟨.inr rfl, ⟨.inl rfl, ⟨.inl rfl, ⟨.inl rfl, ⟨.inl rfl, ⟨.inl rfl, ⟨.inl rfl, ⟨.inl rfl, ⟨.inl rfl, ⟨.inl rfl, ⟨.inl rfl, trivial⟩⟩⟩⟩⟩⟩⟩⟩⟩⟩⟩⟩⟩⟩ ?_
          exact gX10_apart_b88 C _ _ _ _ h
        · replace h := ab_neg hc4 h
          refine ab_iload_n C dX10_apart_39 rfl ?_
          refine ab_if_lt C (tgt := 88) dX10_apart_40 (by decide) (fun hc5 => ?_) (fun hc5 => ?_)
          · replace h := ab_pos hc5 h
            refine ab_weak (lv' := [some (.inr (.inr (0, 0))), some (.inl x1), some (.inl x2), some (.inl (ab_mod (x2 / 10) 10)), none, none, none, none, none, none, none, none, none, none]) ⟨.inr rfl, ⟨.inr rfl, ⟨.inr rfl, ⟨.inr rfl, ⟨.inl rfl, ⟨.inl rfl, ⟨.inl rfl, ⟨.inl rfl, ⟨.inl rfl, ⟨.inl rfl, ⟨.inl rfl, ⟨.inl rfl, ⟨.inl rfl, ⟨.inl rfl, trivial⟩⟩⟩⟩⟩⟩⟩⟩⟩⟩⟩⟩⟩⟩ ?_
            exact gX10_apart_b88 C _ _ _ _ h
          · replace h := ab_neg hc5 h
            refine ab_aload_n C dX10_apart_43 rfl ?_
            refine ab_iload_n C dX10_apart_44 rfl ?_
            refine ab_bipush C dX10_apart_45 (v := 100) rfl ?_
            refine ab_idiv C dX10_apart_47 (by decide) ?_
            refine ab_i2l C dX10_apart_48  ?_
            obtain ⟨q6, hq6, h⟩ := ab_bind h
            refine ab_inv1 C dX10_apart_49 mlX10_117 yvX10_isDoor rkM_0 ⟨_, _, rfl⟩ mmM_0 (tX10_isDoor l _ _ hq6) (Nat.le_of_ble_eq_true rfl) (Nat.le_of_ble_eq_true rfl) rfl (Nat.le_of_ble_eq_true rfl) ?_
            refine ab_if_eq C (tgt := 88) dX10_apart_52 (by decide) (fun hc7 => ?_) (fun hc7 => ?_)
            · replace h := ab_pos hc7 h
              refine ab_weak (lv' := [some (.inr (.inr (0, 0))), some (.inl x1), some (.inl x2), some (.inl (ab_mod (x2 / 10) 10)), none, none, none, none, none, none, none, none, none, none]) ⟨.inr rfl, ⟨.inr rfl, ⟨.inr rfl, ⟨.inr rfl, ⟨.inl rfl, ⟨.inl rfl, ⟨.inl rfl, ⟨.inl rfl, ⟨.inl rfl, ⟨.inl rfl, ⟨.inl rfl, ⟨.inl rfl, ⟨.inl rfl, ⟨.inl rfl, trivial⟩⟩⟩⟩⟩⟩⟩⟩⟩⟩⟩⟩⟩⟩ ?_
              exact gX10_apart_b88 C _ _ _ _ h
            · replace h := ab_neg hc7 h
              refine ab_aload_n C dX10_apart_55 rfl ?_
              refine ab_iload_n C dX10_apart_56 rfl ?_
              refine ab_i2l C dX10_apart_57  ?_
              obtain ⟨q8, hq8, h⟩ := ab_bind h
              refine ab_inv1 C dX10_apart_58 mlX10_117 yvX10_isDoor rkM_0 ⟨_, _, rfl⟩ mmM_0 (tX10_isDoor l _ _ hq8) (Nat.le_of_ble_eq_true rfl) (Nat.le_of_ble_eq_true rfl) rfl (Nat.le_of_ble_eq_true rfl) ?_
              refine ab_if_eq C (tgt := 88) dX10_apart_61 (by decide) (fun hc9 => ?_) (fun hc9 => ?_)
              · replace h := ab_pos hc9 h
                refine ab_weak (lv' := [some (.inr (.inr (0, 0))), some (.inl x1), some (.inl x2), some (.inl (ab_mod (x2 / 10) 10)), none, none, none, none, none, none, none, none, none, none]) ⟨.inr rfl, ⟨.inr rfl, ⟨.inr rfl, ⟨.inr rfl, ⟨.inl rfl, ⟨.inl rfl, ⟨.inl rfl, ⟨.inl rfl, ⟨.inl rfl, ⟨.inl rfl, ⟨.inl rfl, ⟨.inl rfl, ⟨.inl rfl, ⟨.inl rfl, trivial⟩⟩⟩⟩⟩⟩⟩⟩⟩⟩⟩⟩⟩⟩ ?_
                exact gX10_apart_b88 C _ _ _ _ h
              · replace h := ab_neg hc9 h
                refine ab_aload_n C dX10_apart_64 rfl ?_
                refine ab_iload_n C dX10_apart_65 rfl ?_
                refine ab_bipush C dX10_apart_66 (v := 10) rfl ?_
                refine ab_irem C dX10_apart_68 (by decide) ?_
                refine ab_i2l C dX10_apart_69  ?_
                obtain ⟨q10, hq10, h⟩ := ab_bind h
                refine ab_inv1 C dX10_apart_70 mlX10_117 yvX10_isDoor rkM_0 ⟨_, _, rfl⟩ mmM_0 (tX10_isDoor l _ _ hq10) (Nat.le_of_ble_eq_true rfl) (Nat.le_of_ble_eq_true rfl) rfl (Nat.le_of_ble_eq_true rfl) ?_
                refine ab_if_eq C (tgt := 88) dX10_apart_73 (by decide) (fun hc11 => ?_) (fun hc11 => ?_)
                · replace h := ab_pos hc11 h
                  refine ab_weak (lv' := [some (.inr (.inr (0, 0))), some (.inl x1), some (.inl x2), some (.inl (ab_mod (x2 / 10) 10)), none, none, none, none, none, none, none, none, none, none]) ⟨.inr rfl, ⟨.inr rfl, ⟨.inr rfl, ⟨.inr rfl, ⟨.inl rfl, ⟨.inl rfl, ⟨.inl rfl, ⟨.inl rfl, ⟨.inl rfl, ⟨.inl rfl, ⟨.inl rfl, ⟨.inl rfl, ⟨.inl rfl, ⟨.inl rfl, trivial⟩⟩⟩⟩⟩⟩⟩⟩⟩⟩⟩⟩⟩⟩ ?_
                  exact gX10_apart_b88 C _ _ _ _ h
                · replace h := ab_neg hc11 h
                  refine ab_iload_n C dX10_apart_76 rfl ?_
                  refine ab_iload_n C dX10_apart_77 rfl ?_
                  refine ab_bipush C dX10_apart_78 (v := 100) rfl ?_
                  refine ab_idiv C dX10_apart_80 (by decide) ?_
                  refine ab_icmp_eq C (tgt := 88) dX10_apart_81 (by decide) (fun hc12 => ?_) (fun hc12 => ?_)
                  · replace h := ab_pos hc12 h
                    refine ab_weak (lv' := [some (.inr (.inr (0, 0))), some (.inl x1), some (.inl x2), some (.inl (ab_mod (x2 / 10) 10)), none, none, none, none, none, none, none, none, none, none]) ⟨.inr rfl, ⟨.inr rfl, ⟨.inr rfl, ⟨.inr rfl, ⟨.inl rfl, ⟨.inl rfl, ⟨.inl rfl, ⟨.inl rfl, ⟨.inl rfl, ⟨.inl rfl, ⟨.inl rfl, ⟨.inl rfl, ⟨.inl rfl, ⟨.inl rfl, trivial⟩⟩⟩⟩⟩⟩⟩⟩⟩⟩⟩⟩⟩⟩ ?_
                    exact gX10_apart_b88 C _ _ _ _ h
                  · replace h := ab_neg hc12 h
                    refine ab_iconst C dX10_apart_84 (v := 1) rfl ?_
                    refine ab_goto C (tgt := 89) dX10_apart_85 (by decide) ?_
                    refine ab_weak (lv' := [some (.inr (.inr (0, 0))), some (.inl x1), some (.inl x2), some (.inl (ab_mod (x2 / 10) 10)), none, none, none, none, none, none, none, none, none, none]) ⟨.inr rfl, ⟨.inr rfl, ⟨.inr rfl, ⟨.inr rfl, ⟨.inl rfl, ⟨.inl rfl, ⟨.inl rfl, ⟨.inl rfl, ⟨.inl rfl, ⟨.inl rfl, ⟨.inl rfl, ⟨.inl rfl, ⟨.inl rfl, ⟨.inl rfl, trivial⟩⟩⟩⟩⟩⟩⟩⟩⟩⟩⟩⟩⟩⟩ ?_
                    exact gX10_apart_b89 C _ _ _ _ _ h
end
def fX10_areHosts (x0 : Int32) : Option Int32 := (fX10_within ((x0 : Int32).toInt64) 1 15).bind fun q1 => (if ab_isb q1 = true then some q1 else none)
section
variable {p : Program} {l : Launch} {e : Env} {s : State} {m : MethodId} {args : Array Value} {below : List Frame} {meth : Method} {c : Code} {D : va_G} {cA : Nat → ClassId} {ad : Nat → Nat → Nat}
set_option maxRecDepth 100000 in
set_option maxHeartbeats 4000000 in
theorem tX10_areHosts (l : Launch) (x0 : Int32) (σ : ab_S) {R : Int32} (h : fX10_areHosts x0 = some R) : ab_M l yM yX10_areHosts cX10_areHosts 1 (some .boolean) 1 [.inl x0] σ (some (.inl R)) σ := by
  refine ab_M_intro ndM (by decide) (Nat.le_of_ble_eq_true rfl) ?_
  intro p e s m args below meth c D cA ad C
  have C : ab_C yM p s m args meth c D cA ad cX10_areHosts 1 RX10 (some .boolean) := C
  refine ab_weak (lv' := [some (.inl x0)]) ⟨.inr rfl, trivial⟩ ?_
  refine ab_iload_n C dX10_areHosts_0 rfl ?_
  refine ab_i2l C dX10_areHosts_1  ?_
  refine ab_lconst C dX10_areHosts_2 (v := 1) rfl ?_
  refine ab_ldc2 C dX10_areHosts_3 cwX10_280 ?_
  obtain ⟨q1, hq1, h⟩ := ab_bind h
  refine ab_invS1 C dX10_areHosts_6 mlX10_105 ysX10_within (tX10_within l _ _ _ _ hq1) (Nat.le_of_ble_eq_true rfl) (Nat.le_of_ble_eq_true rfl) rfl (Nat.le_of_ble_eq_true rfl) ?_
  obtain ⟨hg2, h⟩ := ab_grd h
  obtain rfl := Option.some.inj h
  exact ab_zret C dX10_areHosts_9 hg2
end
def fX10_asSort_b54 (t0 : Int64) : Option Int64 := some t0
def fX10_asSort (x0 : Int32) (x1 : Int64) : Option Int64 := (if x0 = 0 then fX10_asSort_b54 ((((x1 : Int64).toInt32 : Int32).toInt8.toInt32 : Int32).toInt64) else (if x0 = 1 then fX10_asSort_b54 ((((x1 : Int64).toInt32 : Int32).toInt16.toInt32 : Int32).toInt64) else (if x0 = 2 then fX10_asSort_b54 (((x1 : Int64).toInt32 : Int32).toInt64) else (if x0 = 4 then (if (lg_cmp x1 0) = 0 then fX10_asSort_b54 0 else fX10_asSort_b54 1) else fX10_asSort_b54 x1))))
section
variable {p : Program} {l : Launch} {e : Env} {s : State} {m : MethodId} {args : Array Value} {below : List Frame} {meth : Method} {c : Code} {D : va_G} {cA : Nat → ClassId} {ad : Nat → Nat → Nat}
set_option maxRecDepth 100000 in
set_option maxHeartbeats 4000000 in
theorem gX10_asSort_b54 {R : Int64} (C : ab_C yM p s m args meth c D cA ad cX10_asSort 3 RX10 (some .long)) {σ : ab_S} (t0 : Int64) (h : fX10_asSort_b54 t0 = some R) : ab_G yM p l e s m args below meth c D cA ad 3 0 (some (.inr (.inl R))) σ 54 [none, none, none] [.inr (.inl t0)] σ := by
  obtain rfl := Option.some.inj h
  exact ab_lret C dX10_asSort_54
set_option maxRecDepth 100000 in
set_option maxHeartbeats 4000000 in
theorem tX10_asSort (l : Launch) (x0 : Int32) (x1 : Int64) (σ : ab_S) {R : Int64} (h : fX10_asSort x0 x1 = some R) : ab_M l yM yX10_asSort cX10_asSort 3 (some .long) 0 [.inl x0, .inr (.inl x1)] σ (some (.inr (.inl R))) σ := by
  refine ab_M_intro ndM (by decide) (Nat.le_of_ble_eq_true rfl) ?_
  intro p e s m args below meth c D cA ad C
  have C : ab_C yM p s m args meth c D cA ad cX10_asSort 3 RX10 (some .long) := C
  refine ab_weak (lv' := [some (.inl x0), some (.inr (.inl x1)), none]) ⟨.inr rfl, ⟨.inr rfl, ⟨.inl rfl, trivial⟩⟩⟩ ?_
  refine ab_iload_n C dX10_asSort_0 rfl ?_
  refine ab_if_ne C (tgt := 11) dX10_asSort_1 (by decide) (fun hc1 => ?_) (fun hc1 => ?_)
  · replace h := ab_neg hc1 h
    refine ab_iload_n C dX10_asSort_11 rfl ?_
    refine ab_iconst C dX10_asSort_12 (v := 1) rfl ?_
    refine ab_icmp_ne C (tgt := 23) dX10_asSort_13 (by decide) (fun hc2 => ?_) (fun hc2 => ?_)
    · replace h := ab_neg hc2 h
      refine ab_iload_n C dX10_asSort_23 rfl ?_
      refine ab_iconst C dX10_asSort_24 (v := 2) rfl ?_
      refine ab_icmp_ne C (tgt := 34) dX10_asSort_25 (by decide) (fun hc3 => ?_) (fun hc3 => ?_)
      · replace h := ab_neg hc3 h
        refine ab_iload_n C dX10_asSort_34 rfl ?_
        refine ab_iconst C dX10_asSort_35 (v := 4) rfl ?_
        refine ab_icmp_ne C (tgt := 53) dX10_asSort_36 (by decide) (fun hc4 => ?_) (fun hc4 => ?_)
        · replace h := ab_neg hc4 h
          refine ab_lload_n C dX10_asSort_53 rfl ?_
          refine ab_weak (lv' := [none, none, none]) ⟨.inl rfl, ⟨.inl rfl, ⟨.inl rfl, trivial⟩⟩⟩ ?_
          exact gX10_asSort_b54 C _ h
        · replace h := ab_pos hc4 h
          refine ab_lload_n C dX10_asSort_39 rfl ?_
          refine ab_lconst C dX10_asSort_40 (v := 0) rfl ?_
          refine ab_lcmp C dX10_asSort_41  ?_
          refine ab_if_eq C (tgt := 49) dX10_asSort_42 (by decide) (fun hc5 => ?_) (fun hc5 => ?_)
          · replace h := ab_pos hc5 h
            refine ab_lconst C dX10_asSort_49 (v := 0) rfl ?_
            refine ab_goto C (tgt := 54) dX10_asSort_50 (by decide) ?_
            refine ab_weak (lv' := [none, none, none]) ⟨.inl rfl, ⟨.inl rfl, ⟨.inl rfl, trivial⟩⟩⟩ ?_
            exact gX10_asSort_b54 C _ h
          · replace h := ab_neg hc5 h
            refine ab_lconst C dX10_asSort_45 (v := 1) rfl ?_
            refine ab_goto C (tgt := 54) dX10_asSort_46 (by decide) ?_
            refine ab_weak (lv' := [none, none, none]) ⟨.inl rfl, ⟨.inl rfl, ⟨.inl rfl, trivial⟩⟩⟩ ?_
            exact gX10_asSort_b54 C _ h
      · replace h := ab_pos hc3 h
        refine ab_lload_n C dX10_asSort_28 rfl ?_
        refine ab_l2i C dX10_asSort_29  ?_
        refine ab_i2l C dX10_asSort_30  ?_
        refine ab_goto C (tgt := 54) dX10_asSort_31 (by decide) ?_
        refine ab_weak (lv' := [none, none, none]) ⟨.inl rfl, ⟨.inl rfl, ⟨.inl rfl, trivial⟩⟩⟩ ?_
        exact gX10_asSort_b54 C _ h
    · replace h := ab_pos hc2 h
      refine ab_lload_n C dX10_asSort_16 rfl ?_
      refine ab_l2i C dX10_asSort_17  ?_
      refine ab_i2s C dX10_asSort_18  ?_
      refine ab_i2l C dX10_asSort_19  ?_
      refine ab_goto C (tgt := 54) dX10_asSort_20 (by decide) ?_
      refine ab_weak (lv' := [none, none, none]) ⟨.inl rfl, ⟨.inl rfl, ⟨.inl rfl, trivial⟩⟩⟩ ?_
      exact gX10_asSort_b54 C _ h
  · replace h := ab_pos hc1 h
    refine ab_lload_n C dX10_asSort_4 rfl ?_
    refine ab_l2i C dX10_asSort_5  ?_
    refine ab_i2b C dX10_asSort_6  ?_
    refine ab_i2l C dX10_asSort_7  ?_
    refine ab_goto C (tgt := 54) dX10_asSort_8 (by decide) ?_
    refine ab_weak (lv' := [none, none, none]) ⟨.inl rfl, ⟨.inl rfl, ⟨.inl rfl, trivial⟩⟩⟩ ?_
    exact gX10_asSort_b54 C _ h
end
def fX10_back_b18 (σ : ab_S) : Option (Int32 × ab_S) := some ((-5), σ)
def fX10_back_b39_o (kk39 : Int32 → ab_S → Option (Int32 × ab_S)) (v1 : Int32) (σ : ab_S) : Option (Int32 × ab_S) := (if 3 ≤ v1 then some (σ.1 0 0 9, σ) else (if ab_inb v1 3 = true then (if ab_inb v1 3 = true then ab_k (ab_si σ 5 0 v1.toNatClampNeg (σ.1 15 0 v1.toNatClampNeg)) fun σ4 => (if ab_inb v1 3 = true then (if ab_inb v1 3 = true then ab_k (ab_si σ4 6 0 v1.toNatClampNeg (σ4.1 16 0 v1.toNatClampNeg)) fun σ7 => (if ab_inb v1 3 = true then (if ab_inb v1 3 = true then ab_k (ab_si σ7 14 0 v1.toNatClampNeg (σ7.1 17 0 v1.toNatClampNeg)) fun σ10 => kk39 (v1 + 1) σ10 else none) else none) else none) else none) else none) else none))
def fX10_back_b39 : Nat → Int32 → ab_S → Option (Int32 × ab_S)
  | 0 => fun _ _ => none
  | n + 1 => fX10_back_b39_o  (fX10_back_b39 n)
def fX10_back (σ : ab_S) : Option (Int32 × ab_S) := (if (σ.1 0 0 28) = 0 then fX10_back_b18 σ else (if (σ.1 0 0 29) = (σ.1 0 0 7) then ab_k (ab_si σ 0 0 8 (σ.1 0 0 30)) fun σ3 => ab_k (ab_si σ3 0 0 9 (σ3.1 0 0 31)) fun σ4 => fX10_back_b39 ab_N 0 σ4 else fX10_back_b18 σ))
section
variable {p : Program} {l : Launch} {e : Env} {s : State} {m : MethodId} {args : Array Value} {below : List Frame} {meth : Method} {c : Code} {D : va_G} {cA : Nat → ClassId} {ad : Nat → Nat → Nat}
set_option maxRecDepth 100000 in
set_option maxHeartbeats 4000000 in
theorem gX10_back_b18 {R : (Int32 × ab_S)} (C : ab_C yM p s m args meth c D cA ad cX10_back 2 RX10 (some .int)) (σ : ab_S) (h : fX10_back_b18 σ = some R) : ab_G yM p l e s m args below meth c D cA ad 2 0 (some (.inl R.1)) R.2 18 [none, none] [] σ := by
  refine ab_bipush C dX10_back_18 (v := (-5)) rfl ?_
  obtain rfl := Option.some.inj h
  exact ab_iret C dX10_back_20
set_option maxRecDepth 100000 in
set_option maxHeartbeats 4000000 in
theorem gX10_back_b39_o {R : (Int32 × ab_S)} (C : ab_C yM p s m args meth c D cA ad cX10_back 2 RX10 (some .int)) {kk39 : Int32 → ab_S → Option (Int32 × ab_S)} (hk39 : ∀ (v1 : Int32) (σ : ab_S), kk39 v1 σ = some R → ab_G yM p l e s m args below meth c D cA ad 2 0 (some (.inl R.1)) R.2 39 [some (.inr (.inr (0, 0))), some (.inl v1)] [] σ) (v1 : Int32) (σ : ab_S) (h : fX10_back_b39_o kk39 v1 σ = some R) : ab_G yM p l e s m args below meth c D cA ad 2 0 (some (.inl R.1)) R.2 39 [some (.inr (.inr (0, 0))), some (.inl v1)] [] σ := by
  refine ab_iload_n C dX10_back_39 rfl ?_
  refine ab_iconst C dX10_back_40 (v := 3) rfl ?_
  refine ab_icmp_ge C (tgt := 86) dX10_back_41 (by decide) (fun hc1 => ?_) (fun hc1 => ?_)
  · replace h := ab_pos hc1 h
    refine ab_aload_n C dX10_back_86 rfl ?_
    refine ab_getI C dX10_back_87 flX10_93 rkM_0 rfl mmM_0 ?_
    obtain rfl := Option.some.inj h
    exact ab_iret C dX10_back_90
  · replace h := ab_neg hc1 h
    refine ab_aload_n C dX10_back_44 rfl ?_
    refine ab_getR C dX10_back_45 flX10_24 rkM_0 rfl mmM_0 ?_
    refine ab_iload_n C dX10_back_48 rfl ?_
    refine ab_aload_n C dX10_back_49 rfl ?_
    refine ab_getR C dX10_back_50 flX10_55 rkM_0 rfl mmM_0 ?_
    refine ab_iload_n C dX10_back_53 rfl ?_
    obtain ⟨hg2, h⟩ := ab_grd h
    refine ab_iald C dX10_back_54 rkM_15 mmM_15 hg2 ?_
    obtain ⟨hg3, h⟩ := ab_grd h
    refine ab_iast C dX10_back_55 rkM_5 mmM_5 hg3 ?_
    refine ab_nmS (fun σ4 eσ4 => ?_)
    replace h := ab_kh eσ4 h
    refine ab_aload_n C dX10_back_56 rfl ?_
    refine ab_getR C dX10_back_57 flX10_27 rkM_0 rfl mmM_0 ?_
    refine ab_iload_n C dX10_back_60 rfl ?_
    refine ab_aload_n C dX10_back_61 rfl ?_
    refine ab_getR C dX10_back_62 flX10_58 rkM_0 rfl mmM_0 ?_
    refine ab_iload_n C dX10_back_65 rfl ?_
    obtain ⟨hg5, h⟩ := ab_grd h
    refine ab_iald C dX10_back_66 rkM_16 mmM_16 hg5 ?_
    obtain ⟨hg6, h⟩ := ab_grd h
    refine ab_iast C dX10_back_67 rkM_6 mmM_6 hg6 ?_
    refine ab_nmS (fun σ7 eσ7 => ?_)
    replace h := ab_kh eσ7 h
    refine ab_aload_n C dX10_back_68 rfl ?_
    refine ab_getR C dX10_back_69 flX10_52 rkM_0 rfl mmM_0 ?_
    refine ab_iload_n C dX10_back_72 rfl ?_
    refine ab_aload_n C dX10_back_73 rfl ?_
    refine ab_getR C dX10_back_74 flX10_61 rkM_0 rfl mmM_0 ?_
    refine ab_iload_n C dX10_back_77 rfl ?_
    obtain ⟨hg8, h⟩ := ab_grd h
    refine ab_iald C dX10_back_78 rkM_17 mmM_17 hg8 ?_
    obtain ⟨hg9, h⟩ := ab_grd h
    refine ab_iast C dX10_back_79 rkM_14 mmM_14 hg9 ?_
    refine ab_nmS (fun σ10 eσ10 => ?_)
    replace h := ab_kh eσ10 h
    refine ab_iinc C dX10_back_80 rfl (v := 1) rfl (Nat.le_of_ble_eq_true rfl) ?_
    refine ab_goto C (tgt := 39) dX10_back_83 (by decide) ?_
    refine ab_weak (lv' := [some (.inr (.inr (0, 0))), some (.inl (v1 + 1))]) ⟨.inr rfl, ⟨.inr rfl, trivial⟩⟩ ?_
    exact hk39 _ _ h
theorem gX10_back_b39 {R : (Int32 × ab_S)} (C : ab_C yM p s m args meth c D cA ad cX10_back 2 RX10 (some .int)) : ∀ (j : Nat) (v1 : Int32) (σ : ab_S), fX10_back_b39 j v1 σ = some R → ab_G yM p l e s m args below meth c D cA ad 2 0 (some (.inl R.1)) R.2 39 [some (.inr (.inr (0, 0))), some (.inl v1)] [] σ := by
  intro j
  induction j with
  | zero => intro v1 σ  h; cases h
  | succ j ih => intro v1 σ  h; exact gX10_back_b39_o C ih _ _ h
set_option maxRecDepth 100000 in
set_option maxHeartbeats 4000000 in
theorem tX10_back (l : Launch) (σ : ab_S) {R : (Int32 × ab_S)} (h : fX10_back σ = some R) : ab_M l yM yX10_back cX10_back 2 (some .int) 0 [.inr (.inr (0, 0))] σ (some (.inl R.1)) R.2 := by
  refine ab_M_intro ndM (by decide) (Nat.le_of_ble_eq_true rfl) ?_
  intro p e s m args below meth c D cA ad C
  have C : ab_C yM p s m args meth c D cA ad cX10_back 2 RX10 (some .int) := C
  refine ab_weak (lv' := [some (.inr (.inr (0, 0))), none]) ⟨.inr rfl, ⟨.inl rfl, trivial⟩⟩ ?_
  refine ab_aload_n C dX10_back_0 rfl ?_
  refine ab_getI C dX10_back_1 flX10_328 rkM_0 rfl mmM_0 ?_
  refine ab_if_eq C (tgt := 18) dX10_back_4 (by decide) (fun hc1 => ?_) (fun hc1 => ?_)
  · replace h := ab_pos hc1 h
    refine ab_weak (lv' := [none, none]) ⟨.inl rfl, ⟨.inl rfl, trivial⟩⟩ ?_
    exact gX10_back_b18 C _ h
  · replace h := ab_neg hc1 h
    refine ab_aload_n C dX10_back_7 rfl ?_
    refine ab_getI C dX10_back_8 flX10_332 rkM_0 rfl mmM_0 ?_
    refine ab_aload_n C dX10_back_11 rfl ?_
    refine ab_getI C dX10_back_12 flX10_102 rkM_0 rfl mmM_0 ?_
    refine ab_icmp_eq C (tgt := 21) dX10_back_15 (by decide) (fun hc2 => ?_) (fun hc2 => ?_)
    · replace h := ab_pos hc2 h
      refine ab_aload_n C dX10_back_21 rfl ?_
      refine ab_aload_n C dX10_back_22 rfl ?_
      refine ab_getI C dX10_back_23 flX10_335 rkM_0 rfl mmM_0 ?_
      refine ab_putI C dX10_back_26 fpX10_90 rkM_0 rfl mmM_0 rfl rfl ?_
      refine ab_nmS (fun σ3 eσ3 => ?_)
      replace h := ab_kh eσ3 h
      refine ab_aload_n C dX10_back_29 rfl ?_
      refine ab_aload_n C dX10_back_30 rfl ?_
      refine ab_getI C dX10_back_31 flX10_338 rkM_0 rfl mmM_0 ?_
      refine ab_putI C dX10_back_34 fpX10_93 rkM_0 rfl mmM_0 rfl rfl ?_
      refine ab_nmS (fun σ4 eσ4 => ?_)
      replace h := ab_kh eσ4 h
      refine ab_iconst C dX10_back_37 (v := 0) rfl ?_
      refine ab_istore_n C dX10_back_38 (Nat.le_of_ble_eq_true rfl) ?_
      refine ab_weak (lv' := [some (.inr (.inr (0, 0))), some (.inl 0)]) ⟨.inr rfl, ⟨.inr rfl, trivial⟩⟩ ?_
      exact gX10_back_b39 C ab_N _ _ h
    · replace h := ab_neg hc2 h
      refine ab_weak (lv' := [none, none]) ⟨.inl rfl, ⟨.inl rfl, trivial⟩⟩ ?_
      exact gX10_back_b18 C _ h
end
def fX10_becomes_b97 (v1 : Int32) (v2 : Int32) (v3 : Int32) (σ : ab_S) : Option (Int32 × ab_S) := (if ab_inb (σ.1 0 0 5) 40 = true then ab_k (ab_si σ 2 0 ((σ.1 0 0 5).toNatClampNeg) v1) fun σ2 => (if ab_inb (σ2.1 0 0 5) 40 = true then ab_k (ab_si σ2 3 0 ((σ2.1 0 0 5).toNatClampNeg) v3) fun σ4 => (if ab_inb (σ4.1 0 0 5) 40 = true then ab_k (ab_si σ4 4 0 ((σ4.1 0 0 5).toNatClampNeg) v2) fun σ6 => ab_k (ab_si σ6 0 0 5 ((σ6.1 0 0 5) + 1)) fun σ7 => ab_k (ab_si σ7 0 0 4 (σ7.1 0 0 5)) fun σ8 => (if ab_inb v1 7 = true then ab_k (ab_si σ8 1 0 v1.toNatClampNeg v2) fun σ10 => some (v3, σ10) else none) else none) else none) else none)
def fX10_becomes_b26_o (kk26 : Int32 → Int32 → Int32 → Int32 → ab_S → Option (Int32 × ab_S)) (v1 : Int32) (v2 : Int32) (v3 : Int32) (v4 : Int32) (σ : ab_S) : Option (Int32 × ab_S) := (if 40 ≤ v4 then ab_k (ab_si σ 0 0 5 ((σ.1 0 0 5) - 1)) fun σ2 => fX10_becomes_b97 v1 v2 v3 σ2 else (if ab_inb v4 40 = true then (if ab_inb (v4 - 1) 40 = true then ab_k (ab_si σ 2 0 ((v4 - 1).toNatClampNeg) (σ.1 2 0 v4.toNatClampNeg)) fun σ5 => (if ab_inb v4 40 = true then (if ab_inb (v4 - 1) 40 = true then ab_k (ab_si σ5 3 0 ((v4 - 1).toNatClampNeg) (σ5.1 3 0 v4.toNatClampNeg)) fun σ8 => (if ab_inb v4 40 = true then (if ab_inb (v4 - 1) 40 = true then ab_k (ab_si σ8 4 0 ((v4 - 1).toNatClampNeg) (σ8.1 4 0 v4.toNatClampNeg)) fun σ11 => kk26 v1 v2 v3 (v4 + 1) σ11 else none) else none) else none) else none) else none) else none))
def fX10_becomes_b26 : Nat → Int32 → Int32 → Int32 → Int32 → ab_S → Option (Int32 × ab_S)
  | 0 => fun _ _ _ _ _ => none
  | n + 1 => fX10_becomes_b26_o  (fX10_becomes_b26 n)
def fX10_becomes (x1 : Int32) (x2 : Int32) (σ : ab_S) : Option (Int32 × ab_S) := (if ab_inb x1 7 = true then (if (σ.1 1 0 x1.toNatClampNeg) = x2 then some (σ.1 1 0 x1.toNatClampNeg, σ) else (if (σ.1 0 0 5) = 40 then fX10_becomes_b26 ab_N x1 x2 (σ.1 1 0 x1.toNatClampNeg) 1 σ else fX10_becomes_b97 x1 x2 (σ.1 1 0 x1.toNatClampNeg) σ)) else none)
section
variable {p : Program} {l : Launch} {e : Env} {s : State} {m : MethodId} {args : Array Value} {below : List Frame} {meth : Method} {c : Code} {D : va_G} {cA : Nat → ClassId} {ad : Nat → Nat → Nat}
set_option maxRecDepth 100000 in
set_option maxHeartbeats 4000000 in
theorem gX10_becomes_b97 {R : (Int32 × ab_S)} (C : ab_C yM p s m args meth c D cA ad cX10_becomes 5 RX10 (some .int)) (v1 : Int32) (v2 : Int32) (v3 : Int32) (σ : ab_S) (h : fX10_becomes_b97 v1 v2 v3 σ = some R) : ab_G yM p l e s m args below meth c D cA ad 5 0 (some (.inl R.1)) R.2 97 [some (.inr (.inr (0, 0))), some (.inl v1), some (.inl v2), some (.inl v3), none] [] σ := by
  refine ab_aload_n C dX10_becomes_97 rfl ?_
  refine ab_getR C dX10_becomes_98 flX10_15 rkM_0 rfl mmM_0 ?_
  refine ab_aload_n C dX10_becomes_101 rfl ?_
  refine ab_getI C dX10_becomes_102 flX10_96 rkM_0 rfl mmM_0 ?_
  refine ab_iload_n C dX10_becomes_105 rfl ?_
  obtain ⟨hg1, h⟩ := ab_grd h
  refine ab_iast C dX10_becomes_106 rkM_2 mmM_2 hg1 ?_
  refine ab_nmS (fun σ2 eσ2 => ?_)
  replace h := ab_kh eσ2 h
  refine ab_aload_n C dX10_becomes_107 rfl ?_
  refine ab_getR C dX10_becomes_108 flX10_18 rkM_0 rfl mmM_0 ?_
  refine ab_aload_n C dX10_becomes_111 rfl ?_
  refine ab_getI C dX10_becomes_112 flX10_96 rkM_0 rfl mmM_0 ?_
  refine ab_iload_n C dX10_becomes_115 rfl ?_
  obtain ⟨hg3, h⟩ := ab_grd h
  refine ab_iast C dX10_becomes_116 rkM_3 mmM_3 hg3 ?_
  refine ab_nmS (fun σ4 eσ4 => ?_)
  replace h := ab_kh eσ4 h
  refine ab_aload_n C dX10_becomes_117 rfl ?_
  refine ab_getR C dX10_becomes_118 flX10_21 rkM_0 rfl mmM_0 ?_
  refine ab_aload_n C dX10_becomes_121 rfl ?_
  refine ab_getI C dX10_becomes_122 flX10_96 rkM_0 rfl mmM_0 ?_
  refine ab_iload_n C dX10_becomes_125 rfl ?_
  obtain ⟨hg5, h⟩ := ab_grd h
  refine ab_iast C dX10_becomes_126 rkM_4 mmM_4 hg5 ?_
  refine ab_nmS (fun σ6 eσ6 => ?_)
  replace h := ab_kh eσ6 h
  refine ab_aload_n C dX10_becomes_127 rfl ?_
  refine ab_dup C dX10_becomes_128 rfl ?_
  refine ab_getI C dX10_becomes_129 flX10_96 rkM_0 rfl mmM_0 ?_
  refine ab_iconst C dX10_becomes_132 (v := 1) rfl ?_
  refine ab_iadd C dX10_becomes_133  ?_
  refine ab_putI C dX10_becomes_134 fpX10_96 rkM_0 rfl mmM_0 rfl rfl ?_
  refine ab_nmS (fun σ7 eσ7 => ?_)
  replace h := ab_kh eσ7 h
  refine ab_aload_n C dX10_becomes_137 rfl ?_
  refine ab_aload_n C dX10_becomes_138 rfl ?_
  refine ab_getI C dX10_becomes_139 flX10_96 rkM_0 rfl mmM_0 ?_
  refine ab_putI C dX10_becomes_142 fpX10_99 rkM_0 rfl mmM_0 rfl rfl ?_
  refine ab_nmS (fun σ8 eσ8 => ?_)
  replace h := ab_kh eσ8 h
  refine ab_aload_n C dX10_becomes_145 rfl ?_
  refine ab_getR C dX10_becomes_146 flX10_11 rkM_0 rfl mmM_0 ?_
  refine ab_iload_n C dX10_becomes_149 rfl ?_
  refine ab_iload_n C dX10_becomes_150 rfl ?_
  obtain ⟨hg9, h⟩ := ab_grd h
  refine ab_iast C dX10_becomes_151 rkM_1 mmM_1 hg9 ?_
  refine ab_nmS (fun σ10 eσ10 => ?_)
  replace h := ab_kh eσ10 h
  refine ab_iload_n C dX10_becomes_152 rfl ?_
  obtain rfl := Option.some.inj h
  exact ab_iret C dX10_becomes_153
set_option maxRecDepth 100000 in
set_option maxHeartbeats 4000000 in
theorem gX10_becomes_b26_o {R : (Int32 × ab_S)} (C : ab_C yM p s m args meth c D cA ad cX10_becomes 5 RX10 (some .int)) {kk26 : Int32 → Int32 → Int32 → Int32 → ab_S → Option (Int32 × ab_S)} (hk26 : ∀ (v1 : Int32) (v2 : Int32) (v3 : Int32) (v4 : Int32) (σ : ab_S), kk26 v1 v2 v3 v4 σ = some R → ab_G yM p l e s m args below meth c D cA ad 5 0 (some (.inl R.1)) R.2 26 [some (.inr (.inr (0, 0))), some (.inl v1), some (.inl v2), some (.inl v3), some (.inl v4)] [] σ) (v1 : Int32) (v2 : Int32) (v3 : Int32) (v4 : Int32) (σ : ab_S) (h : fX10_becomes_b26_o kk26 v1 v2 v3 v4 σ = some R) : ab_G yM p l e s m args below meth c D cA ad 5 0 (some (.inl R.1)) R.2 26 [some (.inr (.inr (0, 0))), some (.inl v1), some (.inl v2), some (.inl v3), some (.inl v4)] [] σ := by
  refine ab_iload C dX10_becomes_26 rfl ?_
  refine ab_bipush C dX10_becomes_28 (v := 40) rfl ?_
  refine ab_icmp_ge C (tgt := 87) dX10_becomes_30 (by decide) (fun hc1 => ?_) (fun hc1 => ?_)
  · replace h := ab_pos hc1 h
    refine ab_aload_n C dX10_becomes_87 rfl ?_
    refine ab_dup C dX10_becomes_88 rfl ?_
    refine ab_getI C dX10_becomes_89 flX10_96 rkM_0 rfl mmM_0 ?_
    refine ab_iconst C dX10_becomes_92 (v := 1) rfl ?_
    refine ab_isub C dX10_becomes_93  ?_
    refine ab_putI C dX10_becomes_94 fpX10_96 rkM_0 rfl mmM_0 rfl rfl ?_
    refine ab_nmS (fun σ2 eσ2 => ?_)
    replace h := ab_kh eσ2 h
    refine ab_weak (lv' := [some (.inr (.inr (0, 0))), some (.inl v1), some (.inl v2), some (.inl v3), none]) ⟨.inr rfl, ⟨.inr rfl, ⟨.inr rfl, ⟨.inr rfl, ⟨.inl rfl, trivial⟩⟩⟩⟩⟩ ?_
    exact gX10_becomes_b97 C _ _ _ _ h
  · replace h := ab_neg hc1 h
    refine ab_aload_n C dX10_becomes_33 rfl ?_
    refine ab_getR C dX10_becomes_34 flX10_15 rkM_0 rfl mmM_0 ?_
    refine ab_iload C dX10_becomes_37 rfl ?_
    refine ab_iconst C dX10_becomes_39 (v := 1) rfl ?_
    refine ab_isub C dX10_becomes_40  ?_
    refine ab_aload_n C dX10_becomes_41 rfl ?_
    refine ab_getR C dX10_becomes_42 flX10_15 rkM_0 rfl mmM_0 ?_
    refine ab_iload C dX10_becomes_45 rfl ?_
    obtain ⟨hg3, h⟩ := ab_grd h
    refine ab_iald C dX10_becomes_47 rkM_2 mmM_2 hg3 ?_
    obtain ⟨hg4, h⟩ := ab_grd h
    refine ab_iast C dX10_becomes_48 rkM_2 mmM_2 hg4 ?_
    refine ab_nmS (fun σ5 eσ5 => ?_)
    replace h := ab_kh eσ5 h
    refine ab_aload_n C dX10_becomes_49 rfl ?_
    refine ab_getR C dX10_becomes_50 flX10_18 rkM_0 rfl mmM_0 ?_
    refine ab_iload C dX10_becomes_53 rfl ?_
    refine ab_iconst C dX10_becomes_55 (v := 1) rfl ?_
    refine ab_isub C dX10_becomes_56  ?_
    refine ab_aload_n C dX10_becomes_57 rfl ?_
    refine ab_getR C dX10_becomes_58 flX10_18 rkM_0 rfl mmM_0 ?_
    refine ab_iload C dX10_becomes_61 rfl ?_
    obtain ⟨hg6, h⟩ := ab_grd h
    refine ab_iald C dX10_becomes_63 rkM_3 mmM_3 hg6 ?_
    obtain ⟨hg7, h⟩ := ab_grd h
    refine ab_iast C dX10_becomes_64 rkM_3 mmM_3 hg7 ?_
    refine ab_nmS (fun σ8 eσ8 => ?_)
    replace h := ab_kh eσ8 h
    refine ab_aload_n C dX10_becomes_65 rfl ?_
    refine ab_getR C dX10_becomes_66 flX10_21 rkM_0 rfl mmM_0 ?_
    refine ab_iload C dX10_becomes_69 rfl ?_
    refine ab_iconst C dX10_becomes_71 (v := 1) rfl ?_
    refine ab_isub C dX10_becomes_72  ?_
    refine ab_aload_n C dX10_becomes_73 rfl ?_
    refine ab_getR C dX10_becomes_74 flX10_21 rkM_0 rfl mmM_0 ?_
    refine ab_iload C dX10_becomes_77 rfl ?_
    obtain ⟨hg9, h⟩ := ab_grd h
    refine ab_iald C dX10_becomes_79 rkM_4 mmM_4 hg9 ?_
    obtain ⟨hg10, h⟩ := ab_grd h
    refine ab_iast C dX10_becomes_80 rkM_4 mmM_4 hg10 ?_
    refine ab_nmS (fun σ11 eσ11 => ?_)
    replace h := ab_kh eσ11 h
    refine ab_iinc C dX10_becomes_81 rfl (v := 1) rfl (Nat.le_of_ble_eq_true rfl) ?_
    refine ab_goto C (tgt := 26) dX10_becomes_84 (by decide) ?_
    refine ab_weak (lv' := [some (.inr (.inr (0, 0))), some (.inl v1), some (.inl v2), some (.inl v3), some (.inl (v4 + 1))]) ⟨.inr rfl, ⟨.inr rfl, ⟨.inr rfl, ⟨.inr rfl, ⟨.inr rfl, trivial⟩⟩⟩⟩⟩ ?_
    exact hk26 _ _ _ _ _ h
theorem gX10_becomes_b26 {R : (Int32 × ab_S)} (C : ab_C yM p s m args meth c D cA ad cX10_becomes 5 RX10 (some .int)) : ∀ (j : Nat) (v1 : Int32) (v2 : Int32) (v3 : Int32) (v4 : Int32) (σ : ab_S), fX10_becomes_b26 j v1 v2 v3 v4 σ = some R → ab_G yM p l e s m args below meth c D cA ad 5 0 (some (.inl R.1)) R.2 26 [some (.inr (.inr (0, 0))), some (.inl v1), some (.inl v2), some (.inl v3), some (.inl v4)] [] σ := by
  intro j
  induction j with
  | zero => intro v1 v2 v3 v4 σ  h; cases h
  | succ j ih => intro v1 v2 v3 v4 σ  h; exact gX10_becomes_b26_o C ih _ _ _ _ _ h
set_option maxRecDepth 100000 in
set_option maxHeartbeats 4000000 in
theorem tX10_becomes (l : Launch) (x1 : Int32) (x2 : Int32) (σ : ab_S) {R : (Int32 × ab_S)} (h : fX10_becomes x1 x2 σ = some R) : ab_M l yM yX10_becomes cX10_becomes 5 (some .int) 0 [.inr (.inr (0, 0)), .inl x1, .inl x2] σ (some (.inl R.1)) R.2 := by
  refine ab_M_intro ndM (by decide) (Nat.le_of_ble_eq_true rfl) ?_
  intro p e s m args below meth c D cA ad C
  have C : ab_C yM p s m args meth c D cA ad cX10_becomes 5 RX10 (some .int) := C
  refine ab_weak (lv' := [some (.inr (.inr (0, 0))), some (.inl x1), some (.inl x2), none, none]) ⟨.inr rfl, ⟨.inr rfl, ⟨.inr rfl, ⟨.inl rfl, ⟨.inl rfl, trivial⟩⟩⟩⟩⟩ ?_
  refine ab_aload_n C dX10_becomes_0 rfl ?_
  refine ab_getR C dX10_becomes_1 flX10_11 rkM_0 rfl mmM_0 ?_
  refine ab_iload_n C dX10_becomes_4 rfl ?_
  obtain ⟨hg1, h⟩ := ab_grd h
  refine ab_iald C dX10_becomes_5 rkM_1 mmM_1 hg1 ?_
  refine ab_istore_n C dX10_becomes_6 (Nat.le_of_ble_eq_true rfl) ?_
  refine ab_iload_n C dX10_becomes_7 rfl ?_
  refine ab_iload_n C dX10_becomes_8 rfl ?_
  refine ab_icmp_ne C (tgt := 14) dX10_becomes_9 (by decide) (fun hc2 => ?_) (fun hc2 => ?_)
  · replace h := ab_neg hc2 h
    refine ab_aload_n C dX10_becomes_14 rfl ?_
    refine ab_getI C dX10_becomes_15 flX10_96 rkM_0 rfl mmM_0 ?_
    refine ab_bipush C dX10_becomes_18 (v := 40) rfl ?_
    refine ab_icmp_ne C (tgt := 97) dX10_becomes_20 (by decide) (fun hc3 => ?_) (fun hc3 => ?_)
    · replace h := ab_neg hc3 h
      refine ab_weak (lv' := [some (.inr (.inr (0, 0))), some (.inl x1), some (.inl x2), some (.inl (σ.1 1 0 x1.toNatClampNeg)), none]) ⟨.inr rfl, ⟨.inr rfl, ⟨.inr rfl, ⟨.inr rfl, ⟨.inl rfl, trivial⟩⟩⟩⟩⟩ ?_
      exact gX10_becomes_b97 C _ _ _ _ h
    · replace h := ab_pos hc3 h
      refine ab_iconst C dX10_becomes_23 (v := 1) rfl ?_
      refine ab_istore C dX10_becomes_24 (Nat.le_of_ble_eq_true rfl) ?_
      refine ab_weak (lv' := [some (.inr (.inr (0, 0))), some (.inl x1), some (.inl x2), some (.inl (σ.1 1 0 x1.toNatClampNeg)), some (.inl 1)]) ⟨.inr rfl, ⟨.inr rfl, ⟨.inr rfl, ⟨.inr rfl, ⟨.inr rfl, trivial⟩⟩⟩⟩⟩ ?_
      exact gX10_becomes_b26 C ab_N _ _ _ _ _ h
  · replace h := ab_pos hc2 h
    refine ab_iload_n C dX10_becomes_12 rfl ?_
    obtain rfl := Option.some.inj h
    exact ab_iret C dX10_becomes_13
end
def fX10_begins1_b2_o (kk2 : Int32 → ab_S → Option ab_S) (v1 : Int32) (σ : ab_S) : Option ab_S := (if (σ.1 0 0 6) ≤ v1 then some σ else (if ab_inb v1 7 = true then (if ab_inb v1 20 = true then ab_k (ab_sl σ 13 0 v1.toNatClampNeg ((σ.1 1 0 v1.toNatClampNeg : Int32).toInt64)) fun σ4 => kk2 (v1 + 1) σ4 else none) else none))
def fX10_begins1_b2 : Nat → Int32 → ab_S → Option ab_S
  | 0 => fun _ _ => none
  | n + 1 => fX10_begins1_b2_o  (fX10_begins1_b2 n)
def fX10_begins1 (σ : ab_S) : Option ab_S := fX10_begins1_b2 ab_N 0 σ
section
variable {p : Program} {l : Launch} {e : Env} {s : State} {m : MethodId} {args : Array Value} {below : List Frame} {meth : Method} {c : Code} {D : va_G} {cA : Nat → ClassId} {ad : Nat → Nat → Nat}
set_option maxRecDepth 100000 in
set_option maxHeartbeats 4000000 in
theorem gX10_begins1_b2_o {R : ab_S} (C : ab_C yM p s m args meth c D cA ad cX10_begins1 2 RX10 none) {kk2 : Int32 → ab_S → Option ab_S} (hk2 : ∀ (v1 : Int32) (σ : ab_S), kk2 v1 σ = some R → ab_G yM p l e s m args below meth c D cA ad 2 0 none R 2 [some (.inr (.inr (0, 0))), some (.inl v1)] [] σ) (v1 : Int32) (σ : ab_S) (h : fX10_begins1_b2_o kk2 v1 σ = some R) : ab_G yM p l e s m args below meth c D cA ad 2 0 none R 2 [some (.inr (.inr (0, 0))), some (.inl v1)] [] σ := by
  refine ab_iload_n C dX10_begins1_2 rfl ?_
  refine ab_aload_n C dX10_begins1_3 rfl ?_
  refine ab_getI C dX10_begins1_4 flX10_86 rkM_0 rfl mmM_0 ?_
  refine ab_icmp_ge C (tgt := 29) dX10_begins1_7 (by decide) (fun hc1 => ?_) (fun hc1 => ?_)
  · replace h := ab_pos hc1 h
    obtain rfl := Option.some.inj h
    exact ab_vret C dX10_begins1_29
  · replace h := ab_neg hc1 h
    refine ab_aload_n C dX10_begins1_10 rfl ?_
    refine ab_getR C dX10_begins1_11 flX10_49 rkM_0 rfl mmM_0 ?_
    refine ab_iload_n C dX10_begins1_14 rfl ?_
    refine ab_aload_n C dX10_begins1_15 rfl ?_
    refine ab_getR C dX10_begins1_16 flX10_11 rkM_0 rfl mmM_0 ?_
    refine ab_iload_n C dX10_begins1_19 rfl ?_
    obtain ⟨hg2, h⟩ := ab_grd h
    refine ab_iald C dX10_begins1_20 rkM_1 mmM_1 hg2 ?_
    refine ab_i2l C dX10_begins1_21  ?_
    obtain ⟨hg3, h⟩ := ab_grd h
    refine ab_last C dX10_begins1_22 rkM_13 mmM_13 hg3 ?_
    refine ab_nmS (fun σ4 eσ4 => ?_)
    replace h := ab_kh eσ4 h
    refine ab_iinc C dX10_begins1_23 rfl (v := 1) rfl (Nat.le_of_ble_eq_true rfl) ?_
    refine ab_goto C (tgt := 2) dX10_begins1_26 (by decide) ?_
    refine ab_weak (lv' := [some (.inr (.inr (0, 0))), some (.inl (v1 + 1))]) ⟨.inr rfl, ⟨.inr rfl, trivial⟩⟩ ?_
    exact hk2 _ _ h
theorem gX10_begins1_b2 {R : ab_S} (C : ab_C yM p s m args meth c D cA ad cX10_begins1 2 RX10 none) : ∀ (j : Nat) (v1 : Int32) (σ : ab_S), fX10_begins1_b2 j v1 σ = some R → ab_G yM p l e s m args below meth c D cA ad 2 0 none R 2 [some (.inr (.inr (0, 0))), some (.inl v1)] [] σ := by
  intro j
  induction j with
  | zero => intro v1 σ  h; cases h
  | succ j ih => intro v1 σ  h; exact gX10_begins1_b2_o C ih _ _ h
set_option maxRecDepth 100000 in
set_option maxHeartbeats 4000000 in
theorem tX10_begins1 (l : Launch) (σ : ab_S) {R : ab_S} (h : fX10_begins1 σ = some R) : ab_M l yM yX10_begins1 cX10_begins1 2 none 0 [.inr (.inr (0, 0))] σ none R := by
  refine ab_M_intro ndM (by decide) (Nat.le_of_ble_eq_true rfl) ?_
  intro p e s m args below meth c D cA ad C
  have C : ab_C yM p s m args meth c D cA ad cX10_begins1 2 RX10 none := C
  refine ab_weak (lv' := [some (.inr (.inr (0, 0))), none]) ⟨.inr rfl, ⟨.inl rfl, trivial⟩⟩ ?_
  refine ab_iconst C dX10_begins1_0 (v := 0) rfl ?_
  refine ab_istore_n C dX10_begins1_1 (Nat.le_of_ble_eq_true rfl) ?_
  refine ab_weak (lv' := [some (.inr (.inr (0, 0))), some (.inl 0)]) ⟨.inr rfl, ⟨.inr rfl, trivial⟩⟩ ?_
  exact gX10_begins1_b2 C ab_N _ _ h
end
def fX10_openBehind_b31 (kk4 : Int32 → Int32 → Int32 → ab_S → Option Int32) (v1 : Int32) (v3 : Int32) (t0 : Int32) (t1 : Int32) (σ : ab_S) : Option Int32 := kk4 v1 (t0 ||| t1) (v3 + 1) σ
def fX10_openBehind_b4_o (kk4 : Int32 → Int32 → Int32 → ab_S → Option Int32) (v1 : Int32) (v2 : Int32) (v3 : Int32) (σ : ab_S) : Option Int32 := (if v1 ≤ v3 then some v2 else (if ab_inb v3 3 = true then (if (σ.1 5 0 v3.toNatClampNeg) < 0 then fX10_openBehind_b31 kk4 v1 v3 v2 0 σ else (if ab_inb v3 3 = true then fX10_openBehind_b31 kk4 v1 v3 v2 (1 <<< ((σ.1 5 0 v3.toNatClampNeg) &&& 31)) σ else none)) else none))
def fX10_openBehind_b4 : Nat → Int32 → Int32 → Int32 → ab_S → Option Int32
  | 0 => fun _ _ _ _ => none
  | n + 1 => fX10_openBehind_b4_o  (fX10_openBehind_b4 n)
def fX10_openBehind (x1 : Int32) (σ : ab_S) : Option Int32 := fX10_openBehind_b4 ab_N x1 0 0 σ
section
variable {p : Program} {l : Launch} {e : Env} {s : State} {m : MethodId} {args : Array Value} {below : List Frame} {meth : Method} {c : Code} {D : va_G} {cA : Nat → ClassId} {ad : Nat → Nat → Nat}
set_option maxRecDepth 100000 in
set_option maxHeartbeats 4000000 in
theorem gX10_openBehind_b31 {R : Int32} (C : ab_C yM p s m args meth c D cA ad cX10_openBehind 4 RX10 (some .int)) (σ : ab_S) {kk4 : Int32 → Int32 → Int32 → ab_S → Option Int32} (hk4 : ∀ (v1 : Int32) (v2 : Int32) (v3 : Int32), kk4 v1 v2 v3 σ = some R → ab_G yM p l e s m args below meth c D cA ad 4 0 (some (.inl R)) σ 4 [some (.inr (.inr (0, 0))), some (.inl v1), some (.inl v2), some (.inl v3)] [] σ) (v1 : Int32) (v3 : Int32) (t0 : Int32) (t1 : Int32) (h : fX10_openBehind_b31 kk4 v1 v3 t0 t1 σ = some R) : ab_G yM p l e s m args below meth c D cA ad 4 0 (some (.inl R)) σ 31 [some (.inr (.inr (0, 0))), some (.inl v1), none, some (.inl v3)] [.inl t1, .inl t0] σ := by
  refine ab_ior C dX10_openBehind_31  ?_
  refine ab_istore_n C dX10_openBehind_32 (Nat.le_of_ble_eq_true rfl) ?_
  refine ab_iinc C dX10_openBehind_33 rfl (v := 1) rfl (Nat.le_of_ble_eq_true rfl) ?_
  refine ab_goto C (tgt := 4) dX10_openBehind_36 (by decide) ?_
  refine ab_weak (lv' := [some (.inr (.inr (0, 0))), some (.inl v1), some (.inl (t0 ||| t1)), some (.inl (v3 + 1))]) ⟨.inr rfl, ⟨.inr rfl, ⟨.inr rfl, ⟨.inr rfl, trivial⟩⟩⟩⟩ ?_
  exact hk4 _ _ _ h
set_option maxRecDepth 100000 in
set_option maxHeartbeats 4000000 in
theorem gX10_openBehind_b4_o {R : Int32} (C : ab_C yM p s m args meth c D cA ad cX10_openBehind 4 RX10 (some .int)) (σ : ab_S) {kk4 : Int32 → Int32 → Int32 → ab_S → Option Int32} (hk4 : ∀ (v1 : Int32) (v2 : Int32) (v3 : Int32), kk4 v1 v2 v3 σ = some R → ab_G yM p l e s m args below meth c D cA ad 4 0 (some (.inl R)) σ 4 [some (.inr (.inr (0, 0))), some (.inl v1), some (.inl v2), some (.inl v3)] [] σ) (v1 : Int32) (v2 : Int32) (v3 : Int32) (h : fX10_openBehind_b4_o kk4 v1 v2 v3 σ = some R) : ab_G yM p l e s m args below meth c D cA ad 4 0 (some (.inl R)) σ 4 [some (.inr (.inr (0, 0))), some (.inl v1), some (.inl v2), some (.inl v3)] [] σ := by
  refine ab_iload_n C dX10_openBehind_4 rfl ?_
  refine ab_iload_n C dX10_openBehind_5 rfl ?_
  refine ab_icmp_ge C (tgt := 39) dX10_openBehind_6 (by decide) (fun hc1 => ?_) (fun hc1 => ?_)
  · replace h := ab_pos hc1 h
    refine ab_iload_n C dX10_openBehind_39 rfl ?_
    obtain rfl := Option.some.inj h
    exact ab_iret C dX10_openBehind_40
  · replace h := ab_neg hc1 h
    refine ab_iload_n C dX10_openBehind_9 rfl ?_
    refine ab_aload_n C dX10_openBehind_10 rfl ?_
    refine ab_getR C dX10_openBehind_11 flX10_24 rkM_0 rfl mmM_0 ?_
    refine ab_iload_n C dX10_openBehind_14 rfl ?_
    obtain ⟨hg2, h⟩ := ab_grd h
    refine ab_iald C dX10_openBehind_15 rkM_5 mmM_5 hg2 ?_
    refine ab_if_lt C (tgt := 30) dX10_openBehind_16 (by decide) (fun hc3 => ?_) (fun hc3 => ?_)
    · replace h := ab_pos hc3 h
      refine ab_iconst C dX10_openBehind_30 (v := 0) rfl ?_
      refine ab_weak (lv' := [some (.inr (.inr (0, 0))), some (.inl v1), none, some (.inl v3)]) ⟨.inr rfl, ⟨.inr rfl, ⟨.inl rfl, ⟨.inr rfl, trivial⟩⟩⟩⟩ ?_
      exact gX10_openBehind_b31 C _ hk4 _ _ _ _ h
    · replace h := ab_neg hc3 h
      refine ab_iconst C dX10_openBehind_19 (v := 1) rfl ?_
      refine ab_aload_n C dX10_openBehind_20 rfl ?_
      refine ab_getR C dX10_openBehind_21 flX10_24 rkM_0 rfl mmM_0 ?_
      refine ab_iload_n C dX10_openBehind_24 rfl ?_
      obtain ⟨hg4, h⟩ := ab_grd h
      refine ab_iald C dX10_openBehind_25 rkM_5 mmM_5 hg4 ?_
      refine ab_ishl C dX10_openBehind_26  ?_
      refine ab_goto C (tgt := 31) dX10_openBehind_27 (by decide) ?_
      refine ab_weak (lv' := [some (.inr (.inr (0, 0))), some (.inl v1), none, some (.inl v3)]) ⟨.inr rfl, ⟨.inr rfl, ⟨.inl rfl, ⟨.inr rfl, trivial⟩⟩⟩⟩ ?_
      exact gX10_openBehind_b31 C _ hk4 _ _ _ _ h
theorem gX10_openBehind_b4 {R : Int32} (C : ab_C yM p s m args meth c D cA ad cX10_openBehind 4 RX10 (some .int)) (σ : ab_S) : ∀ (j : Nat) (v1 : Int32) (v2 : Int32) (v3 : Int32), fX10_openBehind_b4 j v1 v2 v3 σ = some R → ab_G yM p l e s m args below meth c D cA ad 4 0 (some (.inl R)) σ 4 [some (.inr (.inr (0, 0))), some (.inl v1), some (.inl v2), some (.inl v3)] [] σ := by
  intro j
  induction j with
  | zero => intro v1 v2 v3  h; cases h
  | succ j ih => intro v1 v2 v3  h; exact gX10_openBehind_b4_o C σ ih _ _ _ h
set_option maxRecDepth 100000 in
set_option maxHeartbeats 4000000 in
theorem tX10_openBehind (l : Launch) (x1 : Int32) (σ : ab_S) {R : Int32} (h : fX10_openBehind x1 σ = some R) : ab_M l yM yX10_openBehind cX10_openBehind 4 (some .int) 0 [.inr (.inr (0, 0)), .inl x1] σ (some (.inl R)) σ := by
  refine ab_M_intro ndM (by decide) (Nat.le_of_ble_eq_true rfl) ?_
  intro p e s m args below meth c D cA ad C
  have C : ab_C yM p s m args meth c D cA ad cX10_openBehind 4 RX10 (some .int) := C
  refine ab_weak (lv' := [some (.inr (.inr (0, 0))), some (.inl x1), none, none]) ⟨.inr rfl, ⟨.inr rfl, ⟨.inl rfl, ⟨.inl rfl, trivial⟩⟩⟩⟩ ?_
  refine ab_iconst C dX10_openBehind_0 (v := 0) rfl ?_
  refine ab_istore_n C dX10_openBehind_1 (Nat.le_of_ble_eq_true rfl) ?_
  refine ab_iconst C dX10_openBehind_2 (v := 0) rfl ?_
  refine ab_istore_n C dX10_openBehind_3 (Nat.le_of_ble_eq_true rfl) ?_
  refine ab_weak (lv' := [some (.inr (.inr (0, 0))), some (.inl x1), some (.inl 0), some (.inl 0)]) ⟨.inr rfl, ⟨.inr rfl, ⟨.inr rfl, ⟨.inr rfl, trivial⟩⟩⟩⟩ ?_
  exact gX10_openBehind_b4 C _ ab_N _ _ _ h
end
def fX10_openNow (σ : ab_S) : Option Int32 := (fX10_openBehind (σ.1 0 0 9) σ).bind fun q1 => some q1
section
variable {p : Program} {l : Launch} {e : Env} {s : State} {m : MethodId} {args : Array Value} {below : List Frame} {meth : Method} {c : Code} {D : va_G} {cA : Nat → ClassId} {ad : Nat → Nat → Nat}
set_option maxRecDepth 100000 in
set_option maxHeartbeats 4000000 in
theorem tX10_openNow (l : Launch) (σ : ab_S) {R : Int32} (h : fX10_openNow σ = some R) : ab_M l yM yX10_openNow cX10_openNow 1 (some .int) 1 [.inr (.inr (0, 0))] σ (some (.inl R)) σ := by
  refine ab_M_intro ndM (by decide) (Nat.le_of_ble_eq_true rfl) ?_
  intro p e s m args below meth c D cA ad C
  have C : ab_C yM p s m args meth c D cA ad cX10_openNow 1 RX10 (some .int) := C
  refine ab_weak (lv' := [some (.inr (.inr (0, 0)))]) ⟨.inr rfl, trivial⟩ ?_
  refine ab_aload_n C dX10_openNow_0 rfl ?_
  refine ab_aload_n C dX10_openNow_1 rfl ?_
  refine ab_getI C dX10_openNow_2 flX10_93 rkM_0 rfl mmM_0 ?_
  obtain ⟨q1, hq1, h⟩ := ab_bind h
  refine ab_inv1 C dX10_openNow_5 mlX10_129 yvX10_openBehind rkM_0 ⟨_, _, rfl⟩ mmM_0 (tX10_openBehind l _ _ hq1) (Nat.le_of_ble_eq_true rfl) (Nat.le_of_ble_eq_true rfl) rfl (Nat.le_of_ble_eq_true rfl) ?_
  obtain rfl := Option.some.inj h
  exact ab_iret C dX10_openNow_8
end
def fX10_bestCome_b78 (kk12 : Int32 → Int32 → Int32 → ab_S → Option Int32) (v1 : Int32) (v3 : Int32) (t0 : Int32) (σ : ab_S) : Option Int32 := kk12 v1 t0 (v3 + 1) σ
def fX10_bestCome_b77 (kk12 : Int32 → Int32 → Int32 → ab_S → Option Int32) (v1 : Int32) (v2 : Int32) (v3 : Int32) (σ : ab_S) : Option Int32 := fX10_bestCome_b78 kk12 v1 v3 v2 σ
def fX10_bestCome_b73 (kk12 : Int32 → Int32 → Int32 → ab_S → Option Int32) (v1 : Int32) (v3 : Int32) (σ : ab_S) : Option Int32 := fX10_bestCome_b78 kk12 v1 v3 v3 σ
def fX10_bestCome_b12_o (kk12 : Int32 → Int32 → Int32 → ab_S → Option Int32) (v1 : Int32) (v2 : Int32) (v3 : Int32) (σ : ab_S) : Option Int32 := (if (σ.1 0 0 6) ≤ v3 then some v2 else (fX10_isIn v1 v3).bind fun q2 => (if q2 = 0 then (if ab_inb v3 5 = true then (if ab_inb v2 5 = true then (if 0 < (lg_cmp (σ.2 12 0 v3.toNatClampNeg) (σ.2 12 0 v2.toNatClampNeg)) then fX10_bestCome_b73 kk12 v1 v3 σ else (if ab_inb v3 5 = true then (if ab_inb v2 5 = true then (if (lg_cmp (σ.2 12 0 v3.toNatClampNeg) (σ.2 12 0 v2.toNatClampNeg)) = 0 then (if v2 = (σ.1 0 0 8) then fX10_bestCome_b77 kk12 v1 v2 v3 σ else (if v2 ≤ v3 then fX10_bestCome_b77 kk12 v1 v2 v3 σ else fX10_bestCome_b73 kk12 v1 v3 σ)) else fX10_bestCome_b77 kk12 v1 v2 v3 σ) else none) else none)) else none) else none) else fX10_bestCome_b77 kk12 v1 v2 v3 σ))
def fX10_bestCome_b12 : Nat → Int32 → Int32 → Int32 → ab_S → Option Int32
  | 0 => fun _ _ _ _ => none
  | n + 1 => fX10_bestCome_b12_o  (fX10_bestCome_b12 n)
def fX10_bestCome (σ : ab_S) : Option Int32 := (fX10_openNow σ).bind fun q1 => fX10_bestCome_b12 ab_N q1 (σ.1 0 0 8) 0 σ
section
variable {p : Program} {l : Launch} {e : Env} {s : State} {m : MethodId} {args : Array Value} {below : List Frame} {meth : Method} {c : Code} {D : va_G} {cA : Nat → ClassId} {ad : Nat → Nat → Nat}
set_option maxRecDepth 100000 in
set_option maxHeartbeats 4000000 in
theorem gX10_bestCome_b78 {R : Int32} (C : ab_C yM p s m args meth c D cA ad cX10_bestCome 4 RX10 (some .int)) (σ : ab_S) {kk12 : Int32 → Int32 → Int32 → ab_S → Option Int32} (hk12 : ∀ (v1 : Int32) (v2 : Int32) (v3 : Int32), kk12 v1 v2 v3 σ = some R → ab_G yM p l e s m args below meth c D cA ad 4 2 (some (.inl R)) σ 12 [some (.inr (.inr (0, 0))), some (.inl v1), some (.inl v2), some (.inl v3)] [] σ) (v1 : Int32) (v3 : Int32) (t0 : Int32) (h : fX10_bestCome_b78 kk12 v1 v3 t0 σ = some R) : ab_G yM p l e s m args below meth c D cA ad 4 2 (some (.inl R)) σ 78 [some (.inr (.inr (0, 0))), some (.inl v1), none, some (.inl v3)] [.inl t0] σ := by
  refine ab_istore_n C dX10_bestCome_78 (Nat.le_of_ble_eq_true rfl) ?_
  refine ab_iinc C dX10_bestCome_79 rfl (v := 1) rfl (Nat.le_of_ble_eq_true rfl) ?_
  refine ab_goto C (tgt := 12) dX10_bestCome_82 (by decide) ?_
  refine ab_weak (lv' := [some (.inr (.inr (0, 0))), some (.inl v1), some (.inl t0), some (.inl (v3 + 1))]) ⟨.inr rfl, ⟨.inr rfl, ⟨.inr rfl, ⟨.inr rfl, trivial⟩⟩⟩⟩ ?_
  exact hk12 _ _ _ h
set_option maxRecDepth 100000 in
set_option maxHeartbeats 4000000 in
theorem gX10_bestCome_b77 {R : Int32} (C : ab_C yM p s m args meth c D cA ad cX10_bestCome 4 RX10 (some .int)) (σ : ab_S) {kk12 : Int32 → Int32 → Int32 → ab_S → Option Int32} (hk12 : ∀ (v1 : Int32) (v2 : Int32) (v3 : Int32), kk12 v1 v2 v3 σ = some R → ab_G yM p l e s m args below meth c D cA ad 4 2 (some (.inl R)) σ 12 [some (.inr (.inr (0, 0))), some (.inl v1), some (.inl v2), some (.inl v3)] [] σ) (v1 : Int32) (v2 : Int32) (v3 : Int32) (h : fX10_bestCome_b77 kk12 v1 v2 v3 σ = some R) : ab_G yM p l e s m args below meth c D cA ad 4 2 (some (.inl R)) σ 77 [some (.inr (.inr (0, 0))), some (.inl v1), some (.inl v2), some (.inl v3)] [] σ := by
  refine ab_iload_n C dX10_bestCome_77 rfl ?_
  refine ab_weak (lv' := [some (.inr (.inr (0, 0))), some (.inl v1), none, some (.inl v3)]) ⟨.inr rfl, ⟨.inr rfl, ⟨.inl rfl, ⟨.inr rfl, trivial⟩⟩⟩⟩ ?_
  exact gX10_bestCome_b78 C _ hk12 _ _ _ h
set_option maxRecDepth 100000 in
set_option maxHeartbeats 4000000 in
theorem gX10_bestCome_b73 {R : Int32} (C : ab_C yM p s m args meth c D cA ad cX10_bestCome 4 RX10 (some .int)) (σ : ab_S) {kk12 : Int32 → Int32 → Int32 → ab_S → Option Int32} (hk12 : ∀ (v1 : Int32) (v2 : Int32) (v3 : Int32), kk12 v1 v2 v3 σ = some R → ab_G yM p l e s m args below meth c D cA ad 4 2 (some (.inl R)) σ 12 [some (.inr (.inr (0, 0))), some (.inl v1), some (.inl v2), some (.inl v3)] [] σ) (v1 : Int32) (v3 : Int32) (h : fX10_bestCome_b73 kk12 v1 v3 σ = some R) : ab_G yM p l e s m args below meth c D cA ad 4 2 (some (.inl R)) σ 73 [some (.inr (.inr (0, 0))), some (.inl v1), none, some (.inl v3)] [] σ := by
  refine ab_iload_n C dX10_bestCome_73 rfl ?_
  refine ab_goto C (tgt := 78) dX10_bestCome_74 (by decide) ?_
  refine ab_weak (lv' := [some (.inr (.inr (0, 0))), some (.inl v1), none, some (.inl v3)]) ⟨.inr rfl, ⟨.inr rfl, ⟨.inl rfl, ⟨.inr rfl, trivial⟩⟩⟩⟩ ?_
  exact gX10_bestCome_b78 C _ hk12 _ _ _ h
set_option maxRecDepth 100000 in
set_option maxHeartbeats 4000000 in
theorem gX10_bestCome_b12_o {R : Int32} (C : ab_C yM p s m args meth c D cA ad cX10_bestCome 4 RX10 (some .int)) (σ : ab_S) {kk12 : Int32 → Int32 → Int32 → ab_S → Option Int32} (hk12 : ∀ (v1 : Int32) (v2 : Int32) (v3 : Int32), kk12 v1 v2 v3 σ = some R → ab_G yM p l e s m args below meth c D cA ad 4 2 (some (.inl R)) σ 12 [some (.inr (.inr (0, 0))), some (.inl v1), some (.inl v2), some (.inl v3)] [] σ) (v1 : Int32) (v2 : Int32) (v3 : Int32) (h : fX10_bestCome_b12_o kk12 v1 v2 v3 σ = some R) : ab_G yM p l e s m args below meth c D cA ad 4 2 (some (.inl R)) σ 12 [some (.inr (.inr (0, 0))), some (.inl v1), some (.inl v2), some (.inl v3)] [] σ := by
  refine ab_iload_n C dX10_bestCome_12 rfl ?_
  refine ab_aload_n C dX10_bestCome_13 rfl ?_
  refine ab_getI C dX10_bestCome_14 flX10_86 rkM_0 rfl mmM_0 ?_
  refine ab_icmp_ge C (tgt := 85) dX10_bestCome_17 (by decide) (fun hc1 => ?_) (fun hc1 => ?_)
  · replace h := ab_pos hc1 h
    refine ab_iload_n C dX10_bestCome_85 rfl ?_
    obtain rfl := Option.some.inj h
    exact ab_iret C dX10_bestCome_86
  · replace h := ab_neg hc1 h
    refine ab_iload_n C dX10_bestCome_20 rfl ?_
    refine ab_iload_n C dX10_bestCome_21 rfl ?_
    obtain ⟨q2, hq2, h⟩ := ab_bind h
    refine ab_invS1 C dX10_bestCome_22 mlX10_138 ysX10_isIn (tX10_isIn l _ _ _ hq2) (Nat.le_of_ble_eq_true rfl) (Nat.le_of_ble_eq_true rfl) rfl (Nat.le_of_ble_eq_true rfl) ?_
    refine ab_if_ne C (tgt := 77) dX10_bestCome_25 (by decide) (fun hc3 => ?_) (fun hc3 => ?_)
    · replace h := ab_neg hc3 h
      refine ab_weak (lv' := [some (.inr (.inr (0, 0))), some (.inl v1), some (.inl v2), some (.inl v3)]) ⟨.inr rfl, ⟨.inr rfl, ⟨.inr rfl, ⟨.inr rfl, trivial⟩⟩⟩⟩ ?_
      exact gX10_bestCome_b77 C _ hk12 _ _ _ h
    · replace h := ab_pos hc3 h
      refine ab_aload_n C dX10_bestCome_28 rfl ?_
      refine ab_getR C dX10_bestCome_29 flX10_45 rkM_0 rfl mmM_0 ?_
      refine ab_iload_n C dX10_bestCome_32 rfl ?_
      obtain ⟨hg4, h⟩ := ab_grd h
      refine ab_lald C dX10_bestCome_33 rkM_12 mmM_12 hg4 ?_
      refine ab_aload_n C dX10_bestCome_34 rfl ?_
      refine ab_getR C dX10_bestCome_35 flX10_45 rkM_0 rfl mmM_0 ?_
      refine ab_iload_n C dX10_bestCome_38 rfl ?_
      obtain ⟨hg5, h⟩ := ab_grd h
      refine ab_lald C dX10_bestCome_39 rkM_12 mmM_12 hg5 ?_
      refine ab_lcmp C dX10_bestCome_40  ?_
      refine ab_if_gt C (tgt := 73) dX10_bestCome_41 (by decide) (fun hc6 => ?_) (fun hc6 => ?_)
      · replace h := ab_pos hc6 h
        refine ab_weak (lv' := [some (.inr (.inr (0, 0))), some (.inl v1), none, some (.inl v3)]) ⟨.inr rfl, ⟨.inr rfl, ⟨.inl rfl, ⟨.inr rfl, trivial⟩⟩⟩⟩ ?_
        exact gX10_bestCome_b73 C _ hk12 _ _ h
      · replace h := ab_neg hc6 h
        refine ab_aload_n C dX10_bestCome_44 rfl ?_
        refine ab_getR C dX10_bestCome_45 flX10_45 rkM_0 rfl mmM_0 ?_
        refine ab_iload_n C dX10_bestCome_48 rfl ?_
        obtain ⟨hg7, h⟩ := ab_grd h
        refine ab_lald C dX10_bestCome_49 rkM_12 mmM_12 hg7 ?_
        refine ab_aload_n C dX10_bestCome_50 rfl ?_
        refine ab_getR C dX10_bestCome_51 flX10_45 rkM_0 rfl mmM_0 ?_
        refine ab_iload_n C dX10_bestCome_54 rfl ?_
        obtain ⟨hg8, h⟩ := ab_grd h
        refine ab_lald C dX10_bestCome_55 rkM_12 mmM_12 hg8 ?_
        refine ab_lcmp C dX10_bestCome_56  ?_
        refine ab_if_ne C (tgt := 77) dX10_bestCome_57 (by decide) (fun hc9 => ?_) (fun hc9 => ?_)
        · replace h := ab_neg hc9 h
          refine ab_weak (lv' := [some (.inr (.inr (0, 0))), some (.inl v1), some (.inl v2), some (.inl v3)]) ⟨.inr rfl, ⟨.inr rfl, ⟨.inr rfl, ⟨.inr rfl, trivial⟩⟩⟩⟩ ?_
          exact gX10_bestCome_b77 C _ hk12 _ _ _ h
        · replace h := ab_pos hc9 h
          refine ab_iload_n C dX10_bestCome_60 rfl ?_
          refine ab_aload_n C dX10_bestCome_61 rfl ?_
          refine ab_getI C dX10_bestCome_62 flX10_90 rkM_0 rfl mmM_0 ?_
          refine ab_icmp_eq C (tgt := 77) dX10_bestCome_65 (by decide) (fun hc10 => ?_) (fun hc10 => ?_)
          · replace h := ab_pos hc10 h
            refine ab_weak (lv' := [some (.inr (.inr (0, 0))), some (.inl v1), some (.inl v2), some (.inl v3)]) ⟨.inr rfl, ⟨.inr rfl, ⟨.inr rfl, ⟨.inr rfl, trivial⟩⟩⟩⟩ ?_
            exact gX10_bestCome_b77 C _ hk12 _ _ _ h
          · replace h := ab_neg hc10 h
            refine ab_iload_n C dX10_bestCome_68 rfl ?_
            refine ab_iload_n C dX10_bestCome_69 rfl ?_
            refine ab_icmp_ge C (tgt := 77) dX10_bestCome_70 (by decide) (fun hc11 => ?_) (fun hc11 => ?_)
            · replace h := ab_pos hc11 h
              refine ab_weak (lv' := [some (.inr (.inr (0, 0))), some (.inl v1), some (.inl v2), some (.inl v3)]) ⟨.inr rfl, ⟨.inr rfl, ⟨.inr rfl, ⟨.inr rfl, trivial⟩⟩⟩⟩ ?_
              exact gX10_bestCome_b77 C _ hk12 _ _ _ h
            · replace h := ab_neg hc11 h
              refine ab_weak (lv' := [some (.inr (.inr (0, 0))), some (.inl v1), none, some (.inl v3)]) ⟨.inr rfl, ⟨.inr rfl, ⟨.inl rfl, ⟨.inr rfl, trivial⟩⟩⟩⟩ ?_
              exact gX10_bestCome_b73 C _ hk12 _ _ h
theorem gX10_bestCome_b12 {R : Int32} (C : ab_C yM p s m args meth c D cA ad cX10_bestCome 4 RX10 (some .int)) (σ : ab_S) : ∀ (j : Nat) (v1 : Int32) (v2 : Int32) (v3 : Int32), fX10_bestCome_b12 j v1 v2 v3 σ = some R → ab_G yM p l e s m args below meth c D cA ad 4 2 (some (.inl R)) σ 12 [some (.inr (.inr (0, 0))), some (.inl v1), some (.inl v2), some (.inl v3)] [] σ := by
  intro j
  induction j with
  | zero => intro v1 v2 v3  h; cases h
  | succ j ih => intro v1 v2 v3  h; exact gX10_bestCome_b12_o C σ ih _ _ _ h
set_option maxRecDepth 100000 in
set_option maxHeartbeats 4000000 in
theorem tX10_bestCome (l : Launch) (σ : ab_S) {R : Int32} (h : fX10_bestCome σ = some R) : ab_M l yM yX10_bestCome cX10_bestCome 4 (some .int) 2 [.inr (.inr (0, 0))] σ (some (.inl R)) σ := by
  refine ab_M_intro ndM (by decide) (Nat.le_of_ble_eq_true rfl) ?_
  intro p e s m args below meth c D cA ad C
  have C : ab_C yM p s m args meth c D cA ad cX10_bestCome 4 RX10 (some .int) := C
  refine ab_weak (lv' := [some (.inr (.inr (0, 0))), none, none, none]) ⟨.inr rfl, ⟨.inl rfl, ⟨.inl rfl, ⟨.inl rfl, trivial⟩⟩⟩⟩ ?_
  refine ab_aload_n C dX10_bestCome_0 rfl ?_
  obtain ⟨q1, hq1, h⟩ := ab_bind h
  refine ab_inv1 C dX10_bestCome_1 mlX10_134 yvX10_openNow rkM_0 ⟨_, _, rfl⟩ mmM_0 (tX10_openNow l _ hq1) (Nat.le_of_ble_eq_true rfl) (Nat.le_of_ble_eq_true rfl) rfl (Nat.le_of_ble_eq_true rfl) ?_
  refine ab_istore_n C dX10_bestCome_4 (Nat.le_of_ble_eq_true rfl) ?_
  refine ab_aload_n C dX10_bestCome_5 rfl ?_
  refine ab_getI C dX10_bestCome_6 flX10_90 rkM_0 rfl mmM_0 ?_
  refine ab_istore_n C dX10_bestCome_9 (Nat.le_of_ble_eq_true rfl) ?_
  refine ab_iconst C dX10_bestCome_10 (v := 0) rfl ?_
  refine ab_istore_n C dX10_bestCome_11 (Nat.le_of_ble_eq_true rfl) ?_
  refine ab_weak (lv' := [some (.inr (.inr (0, 0))), some (.inl q1), some (.inl (σ.1 0 0 8)), some (.inl 0)]) ⟨.inr rfl, ⟨.inr rfl, ⟨.inr rfl, ⟨.inr rfl, trivial⟩⟩⟩⟩ ?_
  refine ab_weak (lv' := [some (.inr (.inr (0, 0))), some (.inl q1), some (.inl (σ.1 0 0 8)), some (.inl 0)]) ⟨.inr rfl, ⟨.inr rfl, ⟨.inr rfl, ⟨.inr rfl, trivial⟩⟩⟩⟩ ?_
  exact gX10_bestCome_b12 C _ ab_N _ _ _ h
end
def fX10_comes_b28_o (kk4 : Int64 → Int32 → ab_S → Option (Int64 × ab_S)) (kk28 : Int64 → Int32 → Int32 → ab_S → Option (Int64 × ab_S)) (v1 : Int64) (v3 : Int32) (v4 : Int32) (σ : ab_S) : Option (Int64 × ab_S) := (if (σ.1 0 0 9) ≤ v4 then (if ab_inb v3 5 = true then kk4 (v1 + (σ.2 12 0 v3.toNatClampNeg)) (v3 + 1) σ else none) else (if ab_inb v3 5 = true then (if ab_inb 5 7 = true then (if ab_inb v4 3 = true then (fX10_openBehind v4 σ).bind fun q6 => (if ab_inb v4 3 = true then (fX10_actIs (σ.1 1 0 ((5 : Int32).toNatClampNeg)) v3 (σ.1 6 0 v4.toNatClampNeg) q6 v4 (σ.1 5 0 v4.toNatClampNeg) σ).bind fun q8 => (if ab_inb v3 5 = true then ab_k (ab_sl q8.2 12 0 v3.toNatClampNeg ((σ.2 12 0 v3.toNatClampNeg) * q8.1)) fun σ10 => kk28 v1 v3 (v4 + 1) σ10 else none) else none) else none) else none) else none))
def fX10_comes_b28 (kk4 : Int64 → Int32 → ab_S → Option (Int64 × ab_S)) : Nat → Int64 → Int32 → Int32 → ab_S → Option (Int64 × ab_S)
  | 0 => fun _ _ _ _ => none
  | n + 1 => fX10_comes_b28_o kk4 (fX10_comes_b28 kk4 n)
def fX10_comes_b4_o (kk4 : Int64 → Int32 → ab_S → Option (Int64 × ab_S)) (v1 : Int64) (v3 : Int32) (σ : ab_S) : Option (Int64 × ab_S) := (if (σ.1 0 0 6) ≤ v3 then some (v1, σ) else (if ab_inb v3 7 = true then (if ab_inb v3 5 = true then ab_k (ab_sl σ 12 0 v3.toNatClampNeg ((σ.1 1 0 v3.toNatClampNeg : Int32).toInt64)) fun σ4 => fX10_comes_b28 kk4 ab_N v1 v3 0 σ4 else none) else none))
def fX10_comes_b4 : Nat → Int64 → Int32 → ab_S → Option (Int64 × ab_S)
  | 0 => fun _ _ _ => none
  | n + 1 => fX10_comes_b4_o  (fX10_comes_b4 n)
def fX10_comes (σ : ab_S) : Option (Int64 × ab_S) := fX10_comes_b4 ab_N 0 0 σ
section
variable {p : Program} {l : Launch} {e : Env} {s : State} {m : MethodId} {args : Array Value} {below : List Frame} {meth : Method} {c : Code} {D : va_G} {cA : Nat → ClassId} {ad : Nat → Nat → Nat}
set_option maxRecDepth 100000 in
set_option maxHeartbeats 4000000 in
theorem gX10_comes_b28_o {R : (Int64 × ab_S)} (C : ab_C yM p s m args meth c D cA ad cX10_comes 5 RX10 (some .long)) {kk4 : Int64 → Int32 → ab_S → Option (Int64 × ab_S)} (hk4 : ∀ (v1 : Int64) (v3 : Int32) (σ : ab_S), kk4 v1 v3 σ = some R → ab_G yM p l e s m args below meth c D cA ad 5 70 (some (.inr (.inl R.1))) R.2 4 [some (.inr (.inr (0, 0))), some (.inr (.inl v1)), none, some (.inl v3), none] [] σ) {kk28 : Int64 → Int32 → Int32 → ab_S → Option (Int64 × ab_S)} (hk28 : ∀ (v1 : Int64) (v3 : Int32) (v4 : Int32) (σ : ab_S), kk28 v1 v3 v4 σ = some R → ab_G yM p l e s m args below meth c D cA ad 5 70 (some (.inr (.inl R.1))) R.2 28 [some (.inr (.inr (0, 0))), some (.inr (.inl v1)), none, some (.inl v3), some (.inl v4)] [] σ) (v1 : Int64) (v3 : Int32) (v4 : Int32) (σ : ab_S) (h : fX10_comes_b28_o kk4 kk28 v1 v3 v4 σ = some R) : ab_G yM p l e s m args below meth c D cA ad 5 70 (some (.inr (.inl R.1))) R.2 28 [some (.inr (.inr (0, 0))), some (.inr (.inl v1)), none, some (.inl v3), some (.inl v4)] [] σ := by
  refine ab_iload C dX10_comes_28 rfl ?_
  refine ab_aload_n C dX10_comes_30 rfl ?_
  refine ab_getI C dX10_comes_31 flX10_93 rkM_0 rfl mmM_0 ?_
  refine ab_icmp_ge C (tgt := 85) dX10_comes_34 (by decide) (fun hc1 => ?_) (fun hc1 => ?_)
  · replace h := ab_pos hc1 h
    refine ab_lload_n C dX10_comes_85 rfl ?_
    refine ab_aload_n C dX10_comes_86 rfl ?_
    refine ab_getR C dX10_comes_87 flX10_45 rkM_0 rfl mmM_0 ?_
    refine ab_iload_n C dX10_comes_90 rfl ?_
    obtain ⟨hg2, h⟩ := ab_grd h
    refine ab_lald C dX10_comes_91 rkM_12 mmM_12 hg2 ?_
    refine ab_ladd C dX10_comes_92  ?_
    refine ab_lstore_n C dX10_comes_93 (Nat.le_of_ble_eq_true rfl) ?_
    refine ab_iinc C dX10_comes_94 rfl (v := 1) rfl (Nat.le_of_ble_eq_true rfl) ?_
    refine ab_goto C (tgt := 4) dX10_comes_97 (by decide) ?_
    refine ab_weak (lv' := [some (.inr (.inr (0, 0))), some (.inr (.inl (v1 + (σ.2 12 0 v3.toNatClampNeg)))), none, some (.inl (v3 + 1)), none]) ⟨.inr rfl, ⟨.inr rfl, ⟨.inl rfl, ⟨.inr rfl, ⟨.inl rfl, trivial⟩⟩⟩⟩⟩ ?_
    exact hk4 _ _ _ h
  · replace h := ab_neg hc1 h
    refine ab_aload_n C dX10_comes_37 rfl ?_
    refine ab_getR C dX10_comes_38 flX10_45 rkM_0 rfl mmM_0 ?_
    refine ab_iload_n C dX10_comes_41 rfl ?_
    refine ab_dup2 C dX10_comes_42 rfl rfl ?_
    obtain ⟨hg3, h⟩ := ab_grd h
    refine ab_lald C dX10_comes_43 rkM_12 mmM_12 hg3 ?_
    refine ab_aload_n C dX10_comes_44 rfl ?_
    refine ab_aload_n C dX10_comes_45 rfl ?_
    refine ab_getR C dX10_comes_46 flX10_11 rkM_0 rfl mmM_0 ?_
    refine ab_iconst C dX10_comes_49 (v := 5) rfl ?_
    obtain ⟨hg4, h⟩ := ab_grd h
    refine ab_iald C dX10_comes_50 rkM_1 mmM_1 hg4 ?_
    refine ab_iload_n C dX10_comes_51 rfl ?_
    refine ab_aload_n C dX10_comes_52 rfl ?_
    refine ab_getR C dX10_comes_53 flX10_27 rkM_0 rfl mmM_0 ?_
    refine ab_iload C dX10_comes_56 rfl ?_
    obtain ⟨hg5, h⟩ := ab_grd h
    refine ab_iald C dX10_comes_58 rkM_6 mmM_6 hg5 ?_
    refine ab_aload_n C dX10_comes_59 rfl ?_
    refine ab_iload C dX10_comes_60 rfl ?_
    obtain ⟨q6, hq6, h⟩ := ab_bind h
    refine ab_inv1 C dX10_comes_62 mlX10_129 yvX10_openBehind rkM_0 ⟨_, _, rfl⟩ mmM_0 (tX10_openBehind l _ _ hq6) (Nat.le_of_ble_eq_true rfl) (Nat.le_of_ble_eq_true rfl) rfl (Nat.le_of_ble_eq_true rfl) ?_
    refine ab_iload C dX10_comes_65 rfl ?_
    refine ab_aload_n C dX10_comes_67 rfl ?_
    refine ab_getR C dX10_comes_68 flX10_24 rkM_0 rfl mmM_0 ?_
    refine ab_iload C dX10_comes_71 rfl ?_
    obtain ⟨hg7, h⟩ := ab_grd h
    refine ab_iald C dX10_comes_73 rkM_5 mmM_5 hg7 ?_
    obtain ⟨q8, hq8, h⟩ := ab_bind h
    refine ab_inv1 C dX10_comes_74 mlX10_213 yvX10_actIs rkM_0 ⟨_, _, rfl⟩ mmM_0 (tX10_actIs l _ _ _ _ _ _ _ hq8) (Nat.le_of_ble_eq_true rfl) (Nat.le_of_ble_eq_true rfl) rfl (Nat.le_of_ble_eq_true rfl) ?_
    refine ab_lmul C dX10_comes_77  ?_
    obtain ⟨hg9, h⟩ := ab_grd h
    refine ab_last C dX10_comes_78 rkM_12 mmM_12 hg9 ?_
    refine ab_nmS (fun σ10 eσ10 => ?_)
    replace h := ab_kh eσ10 h
    refine ab_iinc C dX10_comes_79 rfl (v := 1) rfl (Nat.le_of_ble_eq_true rfl) ?_
    refine ab_goto C (tgt := 28) dX10_comes_82 (by decide) ?_
    refine ab_weak (lv' := [some (.inr (.inr (0, 0))), some (.inr (.inl v1)), none, some (.inl v3), some (.inl (v4 + 1))]) ⟨.inr rfl, ⟨.inr rfl, ⟨.inl rfl, ⟨.inr rfl, ⟨.inr rfl, trivial⟩⟩⟩⟩⟩ ?_
    exact hk28 _ _ _ _ h
theorem gX10_comes_b28 {R : (Int64 × ab_S)} (C : ab_C yM p s m args meth c D cA ad cX10_comes 5 RX10 (some .long)) {kk4 : Int64 → Int32 → ab_S → Option (Int64 × ab_S)} (hk4 : ∀ (v1 : Int64) (v3 : Int32) (σ : ab_S), kk4 v1 v3 σ = some R → ab_G yM p l e s m args below meth c D cA ad 5 70 (some (.inr (.inl R.1))) R.2 4 [some (.inr (.inr (0, 0))), some (.inr (.inl v1)), none, some (.inl v3), none] [] σ) : ∀ (j : Nat) (v1 : Int64) (v3 : Int32) (v4 : Int32) (σ : ab_S), fX10_comes_b28 kk4 j v1 v3 v4 σ = some R → ab_G yM p l e s m args below meth c D cA ad 5 70 (some (.inr (.inl R.1))) R.2 28 [some (.inr (.inr (0, 0))), some (.inr (.inl v1)), none, some (.inl v3), some (.inl v4)] [] σ := by
  intro j
  induction j with
  | zero => intro v1 v3 v4 σ  h; cases h
  | succ j ih => intro v1 v3 v4 σ  h; exact gX10_comes_b28_o C hk4 ih _ _ _ _ h
set_option maxRecDepth 100000 in
set_option maxHeartbeats 4000000 in
theorem gX10_comes_b4_o {R : (Int64 × ab_S)} (C : ab_C yM p s m args meth c D cA ad cX10_comes 5 RX10 (some .long)) {kk4 : Int64 → Int32 → ab_S → Option (Int64 × ab_S)} (hk4 : ∀ (v1 : Int64) (v3 : Int32) (σ : ab_S), kk4 v1 v3 σ = some R → ab_G yM p l e s m args below meth c D cA ad 5 70 (some (.inr (.inl R.1))) R.2 4 [some (.inr (.inr (0, 0))), some (.inr (.inl v1)), none, some (.inl v3), none] [] σ) (v1 : Int64) (v3 : Int32) (σ : ab_S) (h : fX10_comes_b4_o kk4 v1 v3 σ = some R) : ab_G yM p l e s m args below meth c D cA ad 5 70 (some (.inr (.inl R.1))) R.2 4 [some (.inr (.inr (0, 0))), some (.inr (.inl v1)), none, some (.inl v3), none] [] σ := by
  refine ab_iload_n C dX10_comes_4 rfl ?_
  refine ab_aload_n C dX10_comes_5 rfl ?_
  refine ab_getI C dX10_comes_6 flX10_86 rkM_0 rfl mmM_0 ?_
  refine ab_icmp_ge C (tgt := 100) dX10_comes_9 (by decide) (fun hc1 => ?_) (fun hc1 => ?_)
  · replace h := ab_pos hc1 h
    refine ab_lload_n C dX10_comes_100 rfl ?_
    obtain rfl := Option.some.inj h
    exact ab_lret C dX10_comes_101
  · replace h := ab_neg hc1 h
    refine ab_aload_n C dX10_comes_12 rfl ?_
    refine ab_getR C dX10_comes_13 flX10_45 rkM_0 rfl mmM_0 ?_
    refine ab_iload_n C dX10_comes_16 rfl ?_
    refine ab_aload_n C dX10_comes_17 rfl ?_
    refine ab_getR C dX10_comes_18 flX10_11 rkM_0 rfl mmM_0 ?_
    refine ab_iload_n C dX10_comes_21 rfl ?_
    obtain ⟨hg2, h⟩ := ab_grd h
    refine ab_iald C dX10_comes_22 rkM_1 mmM_1 hg2 ?_
    refine ab_i2l C dX10_comes_23  ?_
    obtain ⟨hg3, h⟩ := ab_grd h
    refine ab_last C dX10_comes_24 rkM_12 mmM_12 hg3 ?_
    refine ab_nmS (fun σ4 eσ4 => ?_)
    replace h := ab_kh eσ4 h
    refine ab_iconst C dX10_comes_25 (v := 0) rfl ?_
    refine ab_istore C dX10_comes_26 (Nat.le_of_ble_eq_true rfl) ?_
    refine ab_weak (lv' := [some (.inr (.inr (0, 0))), some (.inr (.inl v1)), none, some (.inl v3), some (.inl 0)]) ⟨.inr rfl, ⟨.inr rfl, ⟨.inl rfl, ⟨.inr rfl, ⟨.inr rfl, trivial⟩⟩⟩⟩⟩ ?_
    exact gX10_comes_b28 C hk4 ab_N _ _ _ _ h
theorem gX10_comes_b4 {R : (Int64 × ab_S)} (C : ab_C yM p s m args meth c D cA ad cX10_comes 5 RX10 (some .long)) : ∀ (j : Nat) (v1 : Int64) (v3 : Int32) (σ : ab_S), fX10_comes_b4 j v1 v3 σ = some R → ab_G yM p l e s m args below meth c D cA ad 5 70 (some (.inr (.inl R.1))) R.2 4 [some (.inr (.inr (0, 0))), some (.inr (.inl v1)), none, some (.inl v3), none] [] σ := by
  intro j
  induction j with
  | zero => intro v1 v3 σ  h; cases h
  | succ j ih => intro v1 v3 σ  h; exact gX10_comes_b4_o C ih _ _ _ h
set_option maxRecDepth 100000 in
set_option maxHeartbeats 4000000 in
theorem tX10_comes (l : Launch) (σ : ab_S) {R : (Int64 × ab_S)} (h : fX10_comes σ = some R) : ab_M l yM yX10_comes cX10_comes 5 (some .long) 70 [.inr (.inr (0, 0))] σ (some (.inr (.inl R.1))) R.2 := by
  refine ab_M_intro ndM (by decide) (Nat.le_of_ble_eq_true rfl) ?_
  intro p e s m args below meth c D cA ad C
  have C : ab_C yM p s m args meth c D cA ad cX10_comes 5 RX10 (some .long) := C
  refine ab_weak (lv' := [some (.inr (.inr (0, 0))), none, none, none, none]) ⟨.inr rfl, ⟨.inl rfl, ⟨.inl rfl, ⟨.inl rfl, ⟨.inl rfl, trivial⟩⟩⟩⟩⟩ ?_
  refine ab_lconst C dX10_comes_0 (v := 0) rfl ?_
  refine ab_lstore_n C dX10_comes_1 (Nat.le_of_ble_eq_true rfl) ?_
  refine ab_iconst C dX10_comes_2 (v := 0) rfl ?_
  refine ab_istore_n C dX10_comes_3 (Nat.le_of_ble_eq_true rfl) ?_
  refine ab_weak (lv' := [some (.inr (.inr (0, 0))), some (.inr (.inl 0)), none, some (.inl 0), none]) ⟨.inr rfl, ⟨.inr rfl, ⟨.inl rfl, ⟨.inr rfl, ⟨.inl rfl, trivial⟩⟩⟩⟩⟩ ?_
  exact gX10_comes_b4 C ab_N _ _ _ h
end
