def fX10_within_b18 (t0 : Int32) : Option Int32 := (if ab_isb t0 = true then some t0 else none)
def fX10_within_b17 : Option Int32 := fX10_within_b18 0
def fX10_within (x0 : Int64) (x2 : Int64) (x4 : Int64) : Option Int32 := (if (lg_cmp x0 x2) < 0 then fX10_within_b17 else (if 0 < (lg_cmp x0 x4) then fX10_within_b17 else fX10_within_b18 1))
section
variable {p : Program} {l : Launch} {e : Env} {s : State} {m : MethodId} {args : Array Value} {below : List Frame} {meth : Method} {c : Code} {D : va_G} {cA : Nat → ClassId} {ad : Nat → Nat → Nat}
set_option maxRecDepth 100000 in
set_option maxHeartbeats 4000000 in
theorem gX10_within_b18 {R : Int32} (C : ab_C yM p s m args meth c D cA ad cX10_within 6 RX10 (some .boolean)) {σ : ab_S} (t0 : Int32) (h : fX10_within_b18 t0 = some R) : ab_G yM p l e s m args below meth c D cA ad 6 0 (some (.inl R)) σ 18 [none, none, none, none, none, none] [.inl t0] σ := by
  obtain ⟨hg1, h⟩ := ab_grd h
  obtain rfl := Option.some.inj h
  exact ab_zret C dX10_within_18 hg1
set_option maxRecDepth 100000 in
set_option maxHeartbeats 4000000 in
theorem gX10_within_b17 {R : Int32} (C : ab_C yM p s m args meth c D cA ad cX10_within 6 RX10 (some .boolean)) {σ : ab_S} (h : fX10_within_b17 = some R) : ab_G yM p l e s m args below meth c D cA ad 6 0 (some (.inl R)) σ 17 [none, none, none, none, none, none] [] σ := by
  refine ab_iconst C dX10_within_17 (v := 0) rfl ?_
  refine ab_weak (lv' := [none, none, none, none, none, none]) ⟨.inl rfl, ⟨.inl rfl, ⟨.inl rfl, ⟨.inl rfl, ⟨.inl rfl, ⟨.inl rfl, trivial⟩⟩⟩⟩⟩⟩ ?_
  exact gX10_within_b18 C _ h
set_option maxRecDepth 100000 in
set_option maxHeartbeats 4000000 in
theorem tX10_within (l : Launch) (x0 : Int64) (x2 : Int64) (x4 : Int64) (σ : ab_S) {R : Int32} (h : fX10_within x0 x2 x4 = some R) : ab_M l yM yX10_within cX10_within 6 (some .boolean) 0 [.inr (.inl x0), .inr (.inl x2), .inr (.inl x4)] σ (some (.inl R)) σ := by
  refine ab_M_intro ndM (by decide) (Nat.le_of_ble_eq_true rfl) ?_
  intro p e s m args below meth c D cA ad C
  have C : ab_C yM p s m args meth c D cA ad cX10_within 6 RX10 (some .boolean) := C
  refine ab_weak (lv' := [some (.inr (.inl x0)), none, some (.inr (.inl x2)), none, some (.inr (.inl x4)), none]) ⟨.inr rfl, ⟨.inl rfl, ⟨.inr rfl, ⟨.inl rfl, ⟨.inr rfl, ⟨.inl rfl, trivial⟩⟩⟩⟩⟩⟩ ?_
  refine ab_lload_n C dX10_within_0 rfl ?_
  refine ab_lload_n C dX10_within_1 rfl ?_
  refine ab_lcmp C dX10_within_2  ?_
  refine ab_if_lt C (tgt := 17) dX10_within_3 (by decide) (fun hc1 => ?_) (fun hc1 => ?_)
  · replace h := ab_pos hc1 h
    refine ab_weak (lv' := [none, none, none, none, none, none]) ⟨.inl rfl, ⟨.inl rfl, ⟨.inl rfl, ⟨.inl rfl, ⟨.inl rfl, ⟨.inl rfl, trivial⟩⟩⟩⟩⟩⟩ ?_
    exact gX10_within_b17 C h
  · replace h := ab_neg hc1 h
    refine ab_lload_n C dX10_within_6 rfl ?_
    refine ab_lload C dX10_within_7 rfl ?_
    refine ab_lcmp C dX10_within_9  ?_
    refine ab_if_gt C (tgt := 17) dX10_within_10 (by decide) (fun hc2 => ?_) (fun hc2 => ?_)
    · replace h := ab_pos hc2 h
      refine ab_weak (lv' := [none, none, none, none, none, none]) ⟨.inl rfl, ⟨.inl rfl, ⟨.inl rfl, ⟨.inl rfl, ⟨.inl rfl, ⟨.inl rfl, trivial⟩⟩⟩⟩⟩⟩ ?_
      exact gX10_within_b17 C h
    · replace h := ab_neg hc2 h
      refine ab_iconst C dX10_within_13 (v := 1) rfl ?_
      refine ab_goto C (tgt := 18) dX10_within_14 (by decide) ?_
      refine ab_weak (lv' := [none, none, none, none, none, none]) ⟨.inl rfl, ⟨.inl rfl, ⟨.inl rfl, ⟨.inl rfl, ⟨.inl rfl, ⟨.inl rfl, trivial⟩⟩⟩⟩⟩⟩ ?_
      exact gX10_within_b18 C _ h
end
def fX10_isBody (x1 : Int32) (σ : ab_S) : Option Int32 := (fX10_within ((x1 : Int32).toInt64) 0 (((σ.1 0 0 35) - 1 : Int32).toInt64)).bind fun q1 => (if ab_isb q1 = true then some q1 else none)
section
variable {p : Program} {l : Launch} {e : Env} {s : State} {m : MethodId} {args : Array Value} {below : List Frame} {meth : Method} {c : Code} {D : va_G} {cA : Nat → ClassId} {ad : Nat → Nat → Nat}
set_option maxRecDepth 100000 in
set_option maxHeartbeats 4000000 in
theorem tX10_isBody (l : Launch) (x1 : Int32) (σ : ab_S) {R : Int32} (h : fX10_isBody x1 σ = some R) : ab_M l yM yX10_isBody cX10_isBody 2 (some .boolean) 1 [.inr (.inr (0, 0)), .inl x1] σ (some (.inl R)) σ := by
  refine ab_M_intro ndM (by decide) (Nat.le_of_ble_eq_true rfl) ?_
  intro p e s m args below meth c D cA ad C
  have C : ab_C yM p s m args meth c D cA ad cX10_isBody 2 RX10 (some .boolean) := C
  refine ab_weak (lv' := [some (.inr (.inr (0, 0))), some (.inl x1)]) ⟨.inr rfl, ⟨.inr rfl, trivial⟩⟩ ?_
  refine ab_iload_n C dX10_isBody_0 rfl ?_
  refine ab_i2l C dX10_isBody_1  ?_
  refine ab_lconst C dX10_isBody_2 (v := 0) rfl ?_
  refine ab_aload_n C dX10_isBody_3 rfl ?_
  refine ab_getI C dX10_isBody_4 flX10_341 rkM_0 rfl mmM_0 ?_
  refine ab_iconst C dX10_isBody_7 (v := 1) rfl ?_
  refine ab_isub C dX10_isBody_8  ?_
  refine ab_i2l C dX10_isBody_9  ?_
  obtain ⟨q1, hq1, h⟩ := ab_bind h
  refine ab_invS1 C dX10_isBody_10 mlX10_105 ysX10_within (tX10_within l _ _ _ _ hq1) (Nat.le_of_ble_eq_true rfl) (Nat.le_of_ble_eq_true rfl) rfl (Nat.le_of_ble_eq_true rfl) ?_
  obtain ⟨hg2, h⟩ := ab_grd h
  obtain rfl := Option.some.inj h
  exact ab_zret C dX10_isBody_13 hg2
end
def fX10_opensAs_b10 (rc0 : Int32 → Int32 → ab_S → Option (Int32 × ab_S)) (v2 : Int32) (σ : ab_S) : Option (Int32 × ab_S) := (fX10_begins 41 σ).bind fun q1 => (rc0 2 (v2 + 1) q1).bind fun q2 => some (q2.1, q2.2)
def fX10_opensAs_o (rc0 : Int32 → Int32 → ab_S → Option (Int32 × ab_S)) (x1 : Int32) (x2 : Int32) (σ : ab_S) : Option (Int32 × ab_S) := (if x1 = 3 then fX10_opensAs_b10 rc0 x2 σ else (if x1 = 5 then fX10_opensAs_b10 rc0 x2 σ else (if x1 = 2 then (fX10_begins 30 σ).bind fun q10 => (rc0 0 x2 q10).bind fun q11 => some (-q11.1, q11.2) else (if x1 = 7 then (fX10_begins 80 σ).bind fun q7 => (rc0 4 x2 q7).bind fun q8 => ((fX10_asksAs 64) (q8.2.1 0 0 39) 2 q8.2).bind fun q9 => some (q8.1 + q9.1, q9.2) else (fX10_begins 10 σ).bind fun q5 => ((fX10_hidesAs 64) (q5.1 0 0 39) x2 q5).bind fun q6 => some (q6.1 * 2, q6.2)))))
def fzX10_opensAs : Nat → (Int32 → Int32 → ab_S → Option (Int32 × ab_S))
  | 0 => fun _ _ _ => none
  | n + 1 => fX10_opensAs_o ((fzX10_opensAs n))
def fX10_opensAs (n : Nat) (x1 : Int32) (x2 : Int32) (σ : ab_S) : Option (Int32 × ab_S) := (fzX10_opensAs n) x1 x2 σ
section
variable {p : Program} {l : Launch} {e : Env} {s : State} {m : MethodId} {args : Array Value} {below : List Frame} {meth : Method} {c : Code} {D : va_G} {cA : Nat → ClassId} {ad : Nat → Nat → Nat}
set_option maxRecDepth 100000 in
set_option maxHeartbeats 4000000 in
theorem gX10_opensAs_b10 {n : Nat} {R : (Int32 × ab_S)} {rc0 : Int32 → Int32 → ab_S → Option (Int32 × ab_S)} (C : ab_C yM p s m args meth c D cA ad cX10_opensAs 4 RX10 (some .int)) (hrec : (∀ (x1 : Int32) (x2 : Int32) (σ : ab_S), ∀ (R : (Int32 × ab_S)), rc0 x1 x2 σ = some R → ab_M l yM yX10_opensAs cX10_opensAs 4 (some .int) (131 + n) [.inr (.inr (0, 0)), .inl x1, .inl x2] σ (some (.inl R.1)) R.2)) (v2 : Int32) (σ : ab_S) (h : fX10_opensAs_b10 rc0 v2 σ = some R) : ab_G yM p l e s m args below meth c D cA ad 4 (131 + n + 1) (some (.inl R.1)) R.2 10 [some (.inr (.inr (0, 0))), none, some (.inl v2), none] [] σ := by
  refine ab_aload_n C dX10_opensAs_10 rfl ?_
  refine ab_bipush C dX10_opensAs_11 (v := 41) rfl ?_
  obtain ⟨q1, hq1, h⟩ := ab_bind h
  refine ab_inv0 C dX10_opensAs_13 mlX10_349 yvX10_begins rkM_0 ⟨_, _, rfl⟩ mmM_0 (tX10_begins l _ _ hq1) (by omega) (Nat.le_of_ble_eq_true rfl) rfl (Nat.le_of_ble_eq_true rfl) ?_
  refine ab_aload_n C dX10_opensAs_16 rfl ?_
  refine ab_iconst C dX10_opensAs_17 (v := 2) rfl ?_
  refine ab_iload_n C dX10_opensAs_18 rfl ?_
  refine ab_iconst C dX10_opensAs_19 (v := 1) rfl ?_
  refine ab_iadd C dX10_opensAs_20  ?_
  obtain ⟨q2, hq2, h⟩ := ab_bind h
  refine ab_inv1 C dX10_opensAs_21 mlX10_358 yvX10_opensAs rkM_0 ⟨_, _, rfl⟩ mmM_0 (hrec _ _ _ _ hq2) (by omega) (Nat.le_of_ble_eq_true rfl) rfl (Nat.le_of_ble_eq_true rfl) ?_
  obtain rfl := Option.some.inj h
  exact ab_iret C dX10_opensAs_24
set_option maxRecDepth 100000 in
set_option maxHeartbeats 4000000 in
theorem tX10_opensAs_o (l : Launch) {n : Nat} {rc0 : Int32 → Int32 → ab_S → Option (Int32 × ab_S)} (hrec : (∀ (x1 : Int32) (x2 : Int32) (σ : ab_S), ∀ (R : (Int32 × ab_S)), rc0 x1 x2 σ = some R → ab_M l yM yX10_opensAs cX10_opensAs 4 (some .int) (131 + n) [.inr (.inr (0, 0)), .inl x1, .inl x2] σ (some (.inl R.1)) R.2)) (x1 : Int32) (x2 : Int32) (σ : ab_S) {R : (Int32 × ab_S)} (h : fX10_opensAs_o rc0 x1 x2 σ = some R) : ab_M l yM yX10_opensAs cX10_opensAs 4 (some .int) (131 + n + 1) [.inr (.inr (0, 0)), .inl x1, .inl x2] σ (some (.inl R.1)) R.2 := by
  refine ab_M_intro ndM (by decide) (Nat.le_of_ble_eq_true rfl) ?_
  intro p e s m args below meth c D cA ad C
  have C : ab_C yM p s m args meth c D cA ad cX10_opensAs 4 RX10 (some .int) := C
  refine ab_weak (lv' := [some (.inr (.inr (0, 0))), some (.inl x1), some (.inl x2), none]) ⟨.inr rfl, ⟨.inr rfl, ⟨.inr rfl, ⟨.inl rfl, trivial⟩⟩⟩⟩ ?_
  refine ab_iload_n C dX10_opensAs_0 rfl ?_
  refine ab_iconst C dX10_opensAs_1 (v := 3) rfl ?_
  refine ab_icmp_eq C (tgt := 10) dX10_opensAs_2 (by decide) (fun hc1 => ?_) (fun hc1 => ?_)
  · replace h := ab_pos hc1 h
    refine ab_weak (lv' := [some (.inr (.inr (0, 0))), none, some (.inl x2), none]) ⟨.inr rfl, ⟨.inl rfl, ⟨.inr rfl, ⟨.inl rfl, trivial⟩⟩⟩⟩ ?_
    exact gX10_opensAs_b10 C hrec _ _ h
  · replace h := ab_neg hc1 h
    refine ab_iload_n C dX10_opensAs_5 rfl ?_
    refine ab_iconst C dX10_opensAs_6 (v := 5) rfl ?_
    refine ab_icmp_ne C (tgt := 25) dX10_opensAs_7 (by decide) (fun hc2 => ?_) (fun hc2 => ?_)
    · replace h := ab_neg hc2 h
      refine ab_iload_n C dX10_opensAs_25 rfl ?_
      refine ab_iconst C dX10_opensAs_26 (v := 2) rfl ?_
      refine ab_icmp_ne C (tgt := 44) dX10_opensAs_27 (by decide) (fun hc3 => ?_) (fun hc3 => ?_)
      · replace h := ab_neg hc3 h
        refine ab_iload_n C dX10_opensAs_44 rfl ?_
        refine ab_bipush C dX10_opensAs_45 (v := 7) rfl ?_
        refine ab_icmp_ne C (tgt := 75) dX10_opensAs_47 (by decide) (fun hc4 => ?_) (fun hc4 => ?_)
        · replace h := ab_neg hc4 h
          refine ab_aload_n C dX10_opensAs_75 rfl ?_
          refine ab_bipush C dX10_opensAs_76 (v := 10) rfl ?_
          obtain ⟨q5, hq5, h⟩ := ab_bind h
          refine ab_inv0 C dX10_opensAs_78 mlX10_349 yvX10_begins rkM_0 ⟨_, _, rfl⟩ mmM_0 (tX10_begins l _ _ hq5) (by omega) (Nat.le_of_ble_eq_true rfl) rfl (Nat.le_of_ble_eq_true rfl) ?_
          refine ab_aload_n C dX10_opensAs_81 rfl ?_
          refine ab_aload_n C dX10_opensAs_82 rfl ?_
          refine ab_getI C dX10_opensAs_83 flX10_361 rkM_0 rfl mmM_0 ?_
          refine ab_iload_n C dX10_opensAs_86 rfl ?_
          obtain ⟨q6, hq6, h⟩ := ab_bind h
          refine ab_inv1 C dX10_opensAs_87 mlX10_352 yvX10_hidesAs rkM_0 ⟨_, _, rfl⟩ mmM_0 (tX10_hidesAs 64 l _ _ _ hq6) (by omega) (Nat.le_of_ble_eq_true rfl) rfl (Nat.le_of_ble_eq_true rfl) ?_
          refine ab_iconst C dX10_opensAs_90 (v := 2) rfl ?_
          refine ab_imul C dX10_opensAs_91  ?_
          obtain rfl := Option.some.inj h
          exact ab_iret C dX10_opensAs_92
        · replace h := ab_pos hc4 h
          refine ab_aload_n C dX10_opensAs_50 rfl ?_
          refine ab_bipush C dX10_opensAs_51 (v := 80) rfl ?_
          obtain ⟨q7, hq7, h⟩ := ab_bind h
          refine ab_inv0 C dX10_opensAs_53 mlX10_349 yvX10_begins rkM_0 ⟨_, _, rfl⟩ mmM_0 (tX10_begins l _ _ hq7) (by omega) (Nat.le_of_ble_eq_true rfl) rfl (Nat.le_of_ble_eq_true rfl) ?_
          refine ab_aload_n C dX10_opensAs_56 rfl ?_
          refine ab_iconst C dX10_opensAs_57 (v := 4) rfl ?_
          refine ab_iload_n C dX10_opensAs_58 rfl ?_
          obtain ⟨q8, hq8, h⟩ := ab_bind h
          refine ab_inv1 C dX10_opensAs_59 mlX10_358 yvX10_opensAs rkM_0 ⟨_, _, rfl⟩ mmM_0 (hrec _ _ _ _ hq8) (by omega) (Nat.le_of_ble_eq_true rfl) rfl (Nat.le_of_ble_eq_true rfl) ?_
          refine ab_istore_n C dX10_opensAs_62 (Nat.le_of_ble_eq_true rfl) ?_
          refine ab_iload_n C dX10_opensAs_63 rfl ?_
          refine ab_aload_n C dX10_opensAs_64 rfl ?_
          refine ab_aload_n C dX10_opensAs_65 rfl ?_
          refine ab_getI C dX10_opensAs_66 flX10_361 rkM_0 rfl mmM_0 ?_
          refine ab_iconst C dX10_opensAs_69 (v := 2) rfl ?_
          obtain ⟨q9, hq9, h⟩ := ab_bind h
          refine ab_inv1 C dX10_opensAs_70 mlX10_364 yvX10_asksAs rkM_0 ⟨_, _, rfl⟩ mmM_0 (tX10_asksAs 64 l _ _ _ hq9) (by omega) (Nat.le_of_ble_eq_true rfl) rfl (Nat.le_of_ble_eq_true rfl) ?_
          refine ab_iadd C dX10_opensAs_73  ?_
          obtain rfl := Option.some.inj h
          exact ab_iret C dX10_opensAs_74
      · replace h := ab_pos hc3 h
        refine ab_aload_n C dX10_opensAs_30 rfl ?_
        refine ab_bipush C dX10_opensAs_31 (v := 30) rfl ?_
        obtain ⟨q10, hq10, h⟩ := ab_bind h
        refine ab_inv0 C dX10_opensAs_33 mlX10_349 yvX10_begins rkM_0 ⟨_, _, rfl⟩ mmM_0 (tX10_begins l _ _ hq10) (by omega) (Nat.le_of_ble_eq_true rfl) rfl (Nat.le_of_ble_eq_true rfl) ?_
        refine ab_aload_n C dX10_opensAs_36 rfl ?_
        refine ab_iconst C dX10_opensAs_37 (v := 0) rfl ?_
        refine ab_iload_n C dX10_opensAs_38 rfl ?_
        obtain ⟨q11, hq11, h⟩ := ab_bind h
        refine ab_inv1 C dX10_opensAs_39 mlX10_358 yvX10_opensAs rkM_0 ⟨_, _, rfl⟩ mmM_0 (hrec _ _ _ _ hq11) (by omega) (Nat.le_of_ble_eq_true rfl) rfl (Nat.le_of_ble_eq_true rfl) ?_
        refine ab_ineg C dX10_opensAs_42  ?_
        obtain rfl := Option.some.inj h
        exact ab_iret C dX10_opensAs_43
    · replace h := ab_pos hc2 h
      refine ab_weak (lv' := [some (.inr (.inr (0, 0))), none, some (.inl x2), none]) ⟨.inr rfl, ⟨.inl rfl, ⟨.inr rfl, ⟨.inl rfl, trivial⟩⟩⟩⟩ ?_
      exact gX10_opensAs_b10 C hrec _ _ h
end
theorem tzX10_opensAs (l : Launch) : ∀ n : Nat, (∀ (x1 : Int32) (x2 : Int32) (σ : ab_S), ∀ (R : (Int32 × ab_S)), fX10_opensAs n x1 x2 σ = some R → ab_M l yM yX10_opensAs cX10_opensAs 4 (some .int) (131 + n) [.inr (.inr (0, 0)), .inl x1, .inl x2] σ (some (.inl R.1)) R.2) := by
  intro n
  induction n with
  | zero => exact fun _ _ _ _ h => (by cases h)
  | succ n ih => exact fun a0 a1 a2 R h => tX10_opensAs_o l ih a0 a1 a2 h
theorem tX10_opensAs (n : Nat) (l : Launch) (x1 : Int32) (x2 : Int32) (σ : ab_S) {R : (Int32 × ab_S)} (h : fX10_opensAs n x1 x2 σ = some R) : ab_M l yM yX10_opensAs cX10_opensAs 4 (some .int) (131 + n) [.inr (.inr (0, 0)), .inl x1, .inl x2] σ (some (.inl R.1)) R.2 := (tzX10_opensAs l n) x1 x2 σ  R h
def fX10_tellsAs_o (rc0 : Int32 → Int32 → ab_S → Option (Int32 × ab_S)) (x1 : Int32) (x2 : Int32) (σ : ab_S) : Option (Int32 × ab_S) := (if x1 = 5 then (fX10_begins 60 σ).bind fun q8 => (rc0 3 x2 q8).bind fun q9 => some (q9.1 ^^^ 5, q9.2) else (if x1 = 7 then (fX10_begins 81 σ).bind fun q6 => (rc0 4 x2 q6).bind fun q7 => some (q7.1 - 1, q7.2) else (fX10_begins 2 σ).bind fun q3 => ((fX10_opensAs 64) (q3.1 0 0 39) x2 q3).bind fun q4 => ((fX10_asksAs 64) (q4.2.1 0 0 39) 1 q4.2).bind fun q5 => some (q4.1 - q5.1, q5.2)))
def fzX10_tellsAs : Nat → (Int32 → Int32 → ab_S → Option (Int32 × ab_S))
  | 0 => fun _ _ _ => none
  | n + 1 => fX10_tellsAs_o ((fzX10_tellsAs n))
def fX10_tellsAs (n : Nat) (x1 : Int32) (x2 : Int32) (σ : ab_S) : Option (Int32 × ab_S) := (fzX10_tellsAs n) x1 x2 σ
section
variable {p : Program} {l : Launch} {e : Env} {s : State} {m : MethodId} {args : Array Value} {below : List Frame} {meth : Method} {c : Code} {D : va_G} {cA : Nat → ClassId} {ad : Nat → Nat → Nat}
set_option maxRecDepth 100000 in
set_option maxHeartbeats 4000000 in
theorem tX10_tellsAs_o (l : Launch) {n : Nat} {rc0 : Int32 → Int32 → ab_S → Option (Int32 × ab_S)} (hrec : (∀ (x1 : Int32) (x2 : Int32) (σ : ab_S), ∀ (R : (Int32 × ab_S)), rc0 x1 x2 σ = some R → ab_M l yM yX10_tellsAs cX10_tellsAs 4 (some .int) (196 + n) [.inr (.inr (0, 0)), .inl x1, .inl x2] σ (some (.inl R.1)) R.2)) (x1 : Int32) (x2 : Int32) (σ : ab_S) {R : (Int32 × ab_S)} (h : fX10_tellsAs_o rc0 x1 x2 σ = some R) : ab_M l yM yX10_tellsAs cX10_tellsAs 4 (some .int) (196 + n + 1) [.inr (.inr (0, 0)), .inl x1, .inl x2] σ (some (.inl R.1)) R.2 := by
  refine ab_M_intro ndM (by decide) (Nat.le_of_ble_eq_true rfl) ?_
  intro p e s m args below meth c D cA ad C
  have C : ab_C yM p s m args meth c D cA ad cX10_tellsAs 4 RX10 (some .int) := C
  refine ab_weak (lv' := [some (.inr (.inr (0, 0))), some (.inl x1), some (.inl x2), none]) ⟨.inr rfl, ⟨.inr rfl, ⟨.inr rfl, ⟨.inl rfl, trivial⟩⟩⟩⟩ ?_
  refine ab_iload_n C dX10_tellsAs_0 rfl ?_
  refine ab_iconst C dX10_tellsAs_1 (v := 5) rfl ?_
  refine ab_icmp_ne C (tgt := 20) dX10_tellsAs_2 (by decide) (fun hc1 => ?_) (fun hc1 => ?_)
  · replace h := ab_neg hc1 h
    refine ab_iload_n C dX10_tellsAs_20 rfl ?_
    refine ab_bipush C dX10_tellsAs_21 (v := 7) rfl ?_
    refine ab_icmp_ne C (tgt := 41) dX10_tellsAs_23 (by decide) (fun hc2 => ?_) (fun hc2 => ?_)
    · replace h := ab_neg hc2 h
      refine ab_aload_n C dX10_tellsAs_41 rfl ?_
      refine ab_iconst C dX10_tellsAs_42 (v := 2) rfl ?_
      obtain ⟨q3, hq3, h⟩ := ab_bind h
      refine ab_inv0 C dX10_tellsAs_43 mlX10_349 yvX10_begins rkM_0 ⟨_, _, rfl⟩ mmM_0 (tX10_begins l _ _ hq3) (by omega) (Nat.le_of_ble_eq_true rfl) rfl (Nat.le_of_ble_eq_true rfl) ?_
      refine ab_aload_n C dX10_tellsAs_46 rfl ?_
      refine ab_aload_n C dX10_tellsAs_47 rfl ?_
      refine ab_getI C dX10_tellsAs_48 flX10_361 rkM_0 rfl mmM_0 ?_
      refine ab_iload_n C dX10_tellsAs_51 rfl ?_
      obtain ⟨q4, hq4, h⟩ := ab_bind h
      refine ab_inv1 C dX10_tellsAs_52 mlX10_358 yvX10_opensAs rkM_0 ⟨_, _, rfl⟩ mmM_0 (tX10_opensAs 64 l _ _ _ hq4) (by omega) (Nat.le_of_ble_eq_true rfl) rfl (Nat.le_of_ble_eq_true rfl) ?_
      refine ab_istore_n C dX10_tellsAs_55 (Nat.le_of_ble_eq_true rfl) ?_
      refine ab_iload_n C dX10_tellsAs_56 rfl ?_
      refine ab_aload_n C dX10_tellsAs_57 rfl ?_
      refine ab_aload_n C dX10_tellsAs_58 rfl ?_
      refine ab_getI C dX10_tellsAs_59 flX10_361 rkM_0 rfl mmM_0 ?_
      refine ab_iconst C dX10_tellsAs_62 (v := 1) rfl ?_
      obtain ⟨q5, hq5, h⟩ := ab_bind h
      refine ab_inv1 C dX10_tellsAs_63 mlX10_364 yvX10_asksAs rkM_0 ⟨_, _, rfl⟩ mmM_0 (tX10_asksAs 64 l _ _ _ hq5) (by omega) (Nat.le_of_ble_eq_true rfl) rfl (Nat.le_of_ble_eq_true rfl) ?_
      refine ab_isub C dX10_tellsAs_66  ?_
      obtain rfl := Option.some.inj h
      exact ab_iret C dX10_tellsAs_67
    · replace h := ab_pos hc2 h
      refine ab_aload_n C dX10_tellsAs_26 rfl ?_
      refine ab_bipush C dX10_tellsAs_27 (v := 81) rfl ?_
      obtain ⟨q6, hq6, h⟩ := ab_bind h
      refine ab_inv0 C dX10_tellsAs_29 mlX10_349 yvX10_begins rkM_0 ⟨_, _, rfl⟩ mmM_0 (tX10_begins l _ _ hq6) (by omega) (Nat.le_of_ble_eq_true rfl) rfl (Nat.le_of_ble_eq_true rfl) ?_
      refine ab_aload_n C dX10_tellsAs_32 rfl ?_
      refine ab_iconst C dX10_tellsAs_33 (v := 4) rfl ?_
      refine ab_iload_n C dX10_tellsAs_34 rfl ?_
      obtain ⟨q7, hq7, h⟩ := ab_bind h
      refine ab_inv1 C dX10_tellsAs_35 mlX10_367 yvX10_tellsAs rkM_0 ⟨_, _, rfl⟩ mmM_0 (hrec _ _ _ _ hq7) (by omega) (Nat.le_of_ble_eq_true rfl) rfl (Nat.le_of_ble_eq_true rfl) ?_
      refine ab_iconst C dX10_tellsAs_38 (v := 1) rfl ?_
      refine ab_isub C dX10_tellsAs_39  ?_
      obtain rfl := Option.some.inj h
      exact ab_iret C dX10_tellsAs_40
  · replace h := ab_pos hc1 h
    refine ab_aload_n C dX10_tellsAs_5 rfl ?_
    refine ab_bipush C dX10_tellsAs_6 (v := 60) rfl ?_
    obtain ⟨q8, hq8, h⟩ := ab_bind h
    refine ab_inv0 C dX10_tellsAs_8 mlX10_349 yvX10_begins rkM_0 ⟨_, _, rfl⟩ mmM_0 (tX10_begins l _ _ hq8) (by omega) (Nat.le_of_ble_eq_true rfl) rfl (Nat.le_of_ble_eq_true rfl) ?_
    refine ab_aload_n C dX10_tellsAs_11 rfl ?_
    refine ab_iconst C dX10_tellsAs_12 (v := 3) rfl ?_
    refine ab_iload_n C dX10_tellsAs_13 rfl ?_
    obtain ⟨q9, hq9, h⟩ := ab_bind h
    refine ab_inv1 C dX10_tellsAs_14 mlX10_367 yvX10_tellsAs rkM_0 ⟨_, _, rfl⟩ mmM_0 (hrec _ _ _ _ hq9) (by omega) (Nat.le_of_ble_eq_true rfl) rfl (Nat.le_of_ble_eq_true rfl) ?_
    refine ab_iconst C dX10_tellsAs_17 (v := 5) rfl ?_
    refine ab_ixor C dX10_tellsAs_18  ?_
    obtain rfl := Option.some.inj h
    exact ab_iret C dX10_tellsAs_19
end
theorem tzX10_tellsAs (l : Launch) : ∀ n : Nat, (∀ (x1 : Int32) (x2 : Int32) (σ : ab_S), ∀ (R : (Int32 × ab_S)), fX10_tellsAs n x1 x2 σ = some R → ab_M l yM yX10_tellsAs cX10_tellsAs 4 (some .int) (196 + n) [.inr (.inr (0, 0)), .inl x1, .inl x2] σ (some (.inl R.1)) R.2) := by
  intro n
  induction n with
  | zero => exact fun _ _ _ _ h => (by cases h)
  | succ n ih => exact fun a0 a1 a2 R h => tX10_tellsAs_o l ih a0 a1 a2 h
theorem tX10_tellsAs (n : Nat) (l : Launch) (x1 : Int32) (x2 : Int32) (σ : ab_S) {R : (Int32 × ab_S)} (h : fX10_tellsAs n x1 x2 σ = some R) : ab_M l yM yX10_tellsAs cX10_tellsAs 4 (some .int) (196 + n) [.inr (.inr (0, 0)), .inl x1, .inl x2] σ (some (.inl R.1)) R.2 := (tzX10_tellsAs l n) x1 x2 σ  R h
def fX10_act (x1 : Int32) (x2 : Int32) (x3 : Int32) (σ : ab_S) : Option (Int32 × ab_S) := ab_k (ab_si σ 0 0 38 0) fun σ1 => (fX10_isBody x1 σ1).bind fun q2 => (if q2 = 0 then some (0, σ1) else (if ab_inb x1 50 = true then ab_k (ab_si σ1 0 0 39 (σ1.1 18 0 x1.toNatClampNeg)) fun σ5 => ab_k (ab_si σ5 0 0 40 x1) fun σ6 => (if x2 = 0 then ((fX10_hidesAs 64) (σ6.1 0 0 39) x3 σ6).bind fun q8 => some (q8.1, q8.2) else (if x2 = 1 then ((fX10_opensAs 64) (σ6.1 0 0 39) x3 σ6).bind fun q10 => some (q10.1, q10.2) else (if x2 = 2 then ((fX10_asksAs 64) (σ6.1 0 0 39) x3 σ6).bind fun q12 => some (q12.1, q12.2) else (if x2 = 3 then ((fX10_tellsAs 64) (σ6.1 0 0 39) x3 σ6).bind fun q14 => some (q14.1, q14.2) else some (0, σ6))))) else none))
section
variable {p : Program} {l : Launch} {e : Env} {s : State} {m : MethodId} {args : Array Value} {below : List Frame} {meth : Method} {c : Code} {D : va_G} {cA : Nat → ClassId} {ad : Nat → Nat → Nat}
set_option maxRecDepth 100000 in
set_option maxHeartbeats 4000000 in
theorem tX10_act (l : Launch) (x1 : Int32) (x2 : Int32) (x3 : Int32) (σ : ab_S) {R : (Int32 × ab_S)} (h : fX10_act x1 x2 x3 σ = some R) : ab_M l yM yX10_act cX10_act 4 (some .int) 261 [.inr (.inr (0, 0)), .inl x1, .inl x2, .inl x3] σ (some (.inl R.1)) R.2 := by
  refine ab_M_intro ndM (by decide) (Nat.le_of_ble_eq_true rfl) ?_
  intro p e s m args below meth c D cA ad C
  have C : ab_C yM p s m args meth c D cA ad cX10_act 4 RX10 (some .int) := C
  refine ab_weak (lv' := [some (.inr (.inr (0, 0))), some (.inl x1), some (.inl x2), some (.inl x3)]) ⟨.inr rfl, ⟨.inr rfl, ⟨.inr rfl, ⟨.inr rfl, trivial⟩⟩⟩⟩ ?_
  refine ab_aload_n C dX10_act_0 rfl ?_
  refine ab_iconst C dX10_act_1 (v := 0) rfl ?_
  refine ab_putI C dX10_act_2 fpX10_346 rkM_0 rfl mmM_0 rfl rfl ?_
  refine ab_nmS (fun σ1 eσ1 => ?_)
  replace h := ab_kh eσ1 h
  refine ab_aload_n C dX10_act_5 rfl ?_
  refine ab_iload_n C dX10_act_6 rfl ?_
  obtain ⟨q2, hq2, h⟩ := ab_bind h
  refine ab_inv1 C dX10_act_7 mlX10_370 yvX10_isBody rkM_0 ⟨_, _, rfl⟩ mmM_0 (tX10_isBody l _ _ hq2) (Nat.le_of_ble_eq_true rfl) (Nat.le_of_ble_eq_true rfl) rfl (Nat.le_of_ble_eq_true rfl) ?_
  refine ab_if_ne C (tgt := 15) dX10_act_10 (by decide) (fun hc3 => ?_) (fun hc3 => ?_)
  · replace h := ab_neg hc3 h
    refine ab_aload_n C dX10_act_15 rfl ?_
    refine ab_aload_n C dX10_act_16 rfl ?_
    refine ab_getR C dX10_act_17 flX10_64 rkM_0 rfl mmM_0 ?_
    refine ab_iload_n C dX10_act_20 rfl ?_
    obtain ⟨hg4, h⟩ := ab_grd h
    refine ab_iald C dX10_act_21 rkM_18 mmM_18 hg4 ?_
    refine ab_putI C dX10_act_22 fpX10_361 rkM_0 rfl mmM_0 rfl rfl ?_
    refine ab_nmS (fun σ5 eσ5 => ?_)
    replace h := ab_kh eσ5 h
    refine ab_aload_n C dX10_act_25 rfl ?_
    refine ab_iload_n C dX10_act_26 rfl ?_
    refine ab_putI C dX10_act_27 fpX10_355 rkM_0 rfl mmM_0 rfl rfl ?_
    refine ab_nmS (fun σ6 eσ6 => ?_)
    replace h := ab_kh eσ6 h
    refine ab_iload_n C dX10_act_30 rfl ?_
    by_cases hc7 : x2 = 0
    · replace h := ab_pos hc7 h
      refine ab_tswIn C (tgt := 60) dX10_act_31.1 0 (by rw [hc7]; decide) (by decide) (by decide) rfl (by decide) ?_
      refine ab_aload_n C dX10_act_60 rfl ?_
      refine ab_aload_n C dX10_act_61 rfl ?_
      refine ab_getI C dX10_act_62 flX10_361 rkM_0 rfl mmM_0 ?_
      refine ab_iload_n C dX10_act_65 rfl ?_
      obtain ⟨q8, hq8, h⟩ := ab_bind h
      refine ab_inv1 C dX10_act_66 mlX10_352 yvX10_hidesAs rkM_0 ⟨_, _, rfl⟩ mmM_0 (tX10_hidesAs 64 l _ _ _ hq8) (Nat.le_of_ble_eq_true rfl) (Nat.le_of_ble_eq_true rfl) rfl (Nat.le_of_ble_eq_true rfl) ?_
      obtain rfl := Option.some.inj h
      exact ab_iret C dX10_act_69
    · replace h := ab_neg hc7 h
      by_cases hc9 : x2 = 1
      · replace h := ab_pos hc9 h
        refine ab_tswIn C (tgt := 70) dX10_act_31.1 1 (by rw [hc9]; decide) (by decide) (by decide) rfl (by decide) ?_
        refine ab_aload_n C dX10_act_70 rfl ?_
        refine ab_aload_n C dX10_act_71 rfl ?_
        refine ab_getI C dX10_act_72 flX10_361 rkM_0 rfl mmM_0 ?_
        refine ab_iload_n C dX10_act_75 rfl ?_
        obtain ⟨q10, hq10, h⟩ := ab_bind h
        refine ab_inv1 C dX10_act_76 mlX10_358 yvX10_opensAs rkM_0 ⟨_, _, rfl⟩ mmM_0 (tX10_opensAs 64 l _ _ _ hq10) (Nat.le_of_ble_eq_true rfl) (Nat.le_of_ble_eq_true rfl) rfl (Nat.le_of_ble_eq_true rfl) ?_
        obtain rfl := Option.some.inj h
        exact ab_iret C dX10_act_79
      · replace h := ab_neg hc9 h
        by_cases hc11 : x2 = 2
        · replace h := ab_pos hc11 h
          refine ab_tswIn C (tgt := 80) dX10_act_31.1 2 (by rw [hc11]; decide) (by decide) (by decide) rfl (by decide) ?_
          refine ab_aload_n C dX10_act_80 rfl ?_
          refine ab_aload_n C dX10_act_81 rfl ?_
          refine ab_getI C dX10_act_82 flX10_361 rkM_0 rfl mmM_0 ?_
          refine ab_iload_n C dX10_act_85 rfl ?_
          obtain ⟨q12, hq12, h⟩ := ab_bind h
          refine ab_inv1 C dX10_act_86 mlX10_364 yvX10_asksAs rkM_0 ⟨_, _, rfl⟩ mmM_0 (tX10_asksAs 64 l _ _ _ hq12) (Nat.le_of_ble_eq_true rfl) (Nat.le_of_ble_eq_true rfl) rfl (Nat.le_of_ble_eq_true rfl) ?_
          obtain rfl := Option.some.inj h
          exact ab_iret C dX10_act_89
        · replace h := ab_neg hc11 h
          by_cases hc13 : x2 = 3
          · replace h := ab_pos hc13 h
            refine ab_tswIn C (tgt := 90) dX10_act_31.1 3 (by rw [hc13]; decide) (by decide) (by decide) rfl (by decide) ?_
            refine ab_aload_n C dX10_act_90 rfl ?_
            refine ab_aload_n C dX10_act_91 rfl ?_
            refine ab_getI C dX10_act_92 flX10_361 rkM_0 rfl mmM_0 ?_
            refine ab_iload_n C dX10_act_95 rfl ?_
            obtain ⟨q14, hq14, h⟩ := ab_bind h
            refine ab_inv1 C dX10_act_96 mlX10_367 yvX10_tellsAs rkM_0 ⟨_, _, rfl⟩ mmM_0 (tX10_tellsAs 64 l _ _ _ hq14) (Nat.le_of_ble_eq_true rfl) (Nat.le_of_ble_eq_true rfl) rfl (Nat.le_of_ble_eq_true rfl) ?_
            obtain rfl := Option.some.inj h
            exact ab_iret C dX10_act_99
          · replace h := ab_neg hc13 h
            refine ab_tswOut C (tgt := 100) dX10_act_31.1 (by have a0 := lv_neT hc7 (a := 0) (by decide); have a1 := lv_neT hc9 (a := 1) (by decide); have a2 := lv_neT hc11 (a := 2) (by decide); have a3 := lv_neT hc13 (a := 3) (by decide); omega) (by decide) ?_
            refine ab_iconst C dX10_act_100 (v := 0) rfl ?_
            obtain rfl := Option.some.inj h
            exact ab_iret C dX10_act_101
  · replace h := ab_pos hc3 h
    refine ab_iconst C dX10_act_13 (v := 0) rfl ?_
    obtain rfl := Option.some.inj h
    exact ab_iret C dX10_act_14
end
def fX10_bitsOf_b4_o (kk4 : Int32 → Int32 → Option Int32) (v1 : Int32) (v2 : Int32) : Option Int32 := (if v2 = 0 then some v1 else kk4 (v1 + 1) (v2 &&& (v2 - 1)))
def fX10_bitsOf_b4 : Nat → Int32 → Int32 → Option Int32
  | 0 => fun _ _ => none
  | n + 1 => fX10_bitsOf_b4_o  (fX10_bitsOf_b4 n)
def fX10_bitsOf (x0 : Int32) : Option Int32 := fX10_bitsOf_b4 ab_N 0 x0
section
variable {p : Program} {l : Launch} {e : Env} {s : State} {m : MethodId} {args : Array Value} {below : List Frame} {meth : Method} {c : Code} {D : va_G} {cA : Nat → ClassId} {ad : Nat → Nat → Nat}
set_option maxRecDepth 100000 in
set_option maxHeartbeats 4000000 in
theorem gX10_bitsOf_b4_o {R : Int32} (C : ab_C yM p s m args meth c D cA ad cX10_bitsOf 3 RX10 (some .int)) {σ : ab_S} {kk4 : Int32 → Int32 → Option Int32} (hk4 : ∀ (v1 : Int32) (v2 : Int32), kk4 v1 v2 = some R → ab_G yM p l e s m args below meth c D cA ad 3 0 (some (.inl R)) σ 4 [none, some (.inl v1), some (.inl v2)] [] σ) (v1 : Int32) (v2 : Int32) (h : fX10_bitsOf_b4_o kk4 v1 v2 = some R) : ab_G yM p l e s m args below meth c D cA ad 3 0 (some (.inl R)) σ 4 [none, some (.inl v1), some (.inl v2)] [] σ := by
  refine ab_iload_n C dX10_bitsOf_4 rfl ?_
  refine ab_if_eq C (tgt := 20) dX10_bitsOf_5 (by decide) (fun hc1 => ?_) (fun hc1 => ?_)
  · replace h := ab_pos hc1 h
    refine ab_iload_n C dX10_bitsOf_20 rfl ?_
    obtain rfl := Option.some.inj h
    exact ab_iret C dX10_bitsOf_21
  · replace h := ab_neg hc1 h
    refine ab_iinc C dX10_bitsOf_8 rfl (v := 1) rfl (Nat.le_of_ble_eq_true rfl) ?_
    refine ab_iload_n C dX10_bitsOf_11 rfl ?_
    refine ab_iload_n C dX10_bitsOf_12 rfl ?_
    refine ab_iconst C dX10_bitsOf_13 (v := 1) rfl ?_
    refine ab_isub C dX10_bitsOf_14  ?_
    refine ab_iand C dX10_bitsOf_15  ?_
    refine ab_istore_n C dX10_bitsOf_16 (Nat.le_of_ble_eq_true rfl) ?_
    refine ab_goto C (tgt := 4) dX10_bitsOf_17 (by decide) ?_
    refine ab_weak (lv' := [none, some (.inl (v1 + 1)), some (.inl (v2 &&& (v2 - 1)))]) ⟨.inl rfl, ⟨.inr rfl, ⟨.inr rfl, trivial⟩⟩⟩ ?_
    exact hk4 _ _ h
theorem gX10_bitsOf_b4 {R : Int32} (C : ab_C yM p s m args meth c D cA ad cX10_bitsOf 3 RX10 (some .int)) {σ : ab_S} : ∀ (j : Nat) (v1 : Int32) (v2 : Int32), fX10_bitsOf_b4 j v1 v2 = some R → ab_G yM p l e s m args below meth c D cA ad 3 0 (some (.inl R)) σ 4 [none, some (.inl v1), some (.inl v2)] [] σ := by
  intro j
  induction j with
  | zero => intro v1 v2  h; cases h
  | succ j ih => intro v1 v2  h; exact gX10_bitsOf_b4_o C ih _ _ h
set_option maxRecDepth 100000 in
set_option maxHeartbeats 4000000 in
theorem tX10_bitsOf (l : Launch) (x0 : Int32) (σ : ab_S) {R : Int32} (h : fX10_bitsOf x0 = some R) : ab_M l yM yX10_bitsOf cX10_bitsOf 3 (some .int) 0 [.inl x0] σ (some (.inl R)) σ := by
  refine ab_M_intro ndM (by decide) (Nat.le_of_ble_eq_true rfl) ?_
  intro p e s m args below meth c D cA ad C
  have C : ab_C yM p s m args meth c D cA ad cX10_bitsOf 3 RX10 (some .int) := C
  refine ab_weak (lv' := [some (.inl x0), none, none]) ⟨.inr rfl, ⟨.inl rfl, ⟨.inl rfl, trivial⟩⟩⟩ ?_
  refine ab_iconst C dX10_bitsOf_0 (v := 0) rfl ?_
  refine ab_istore_n C dX10_bitsOf_1 (Nat.le_of_ble_eq_true rfl) ?_
  refine ab_iload_n C dX10_bitsOf_2 rfl ?_
  refine ab_istore_n C dX10_bitsOf_3 (Nat.le_of_ble_eq_true rfl) ?_
  refine ab_weak (lv' := [none, some (.inl 0), some (.inl x0)]) ⟨.inl rfl, ⟨.inr rfl, ⟨.inr rfl, trivial⟩⟩⟩ ?_
  exact gX10_bitsOf_b4 C ab_N _ _ h
end
def fX10_byteAt_b48 (t0 : Int32) (σ : ab_S) : Option Int32 := some t0
def fX10_byteAt (σ : ab_S) : Option Int32 := (if (σ.1 0 0 19) ≤ (σ.1 0 0 18) then fX10_byteAt_b48 0 σ else (if 0 ≤ (σ.1 0 0 17) then (if ab_inb ((σ.1 0 0 17) + (σ.1 0 0 18)) 480 = true then fX10_byteAt_b48 (σ.1 9 0 (((σ.1 0 0 17) + (σ.1 0 0 18)).toNatClampNeg)) σ else none) else (if ab_inb (σ.1 0 0 18) 120 = true then fX10_byteAt_b48 (σ.1 8 0 ((σ.1 0 0 18).toNatClampNeg)) σ else none)))
section
variable {p : Program} {l : Launch} {e : Env} {s : State} {m : MethodId} {args : Array Value} {below : List Frame} {meth : Method} {c : Code} {D : va_G} {cA : Nat → ClassId} {ad : Nat → Nat → Nat}
set_option maxRecDepth 100000 in
set_option maxHeartbeats 4000000 in
theorem gX10_byteAt_b48 {R : Int32} (C : ab_C yM p s m args meth c D cA ad cX10_byteAt 1 RX10 (some .int)) (σ : ab_S) (t0 : Int32) (h : fX10_byteAt_b48 t0 σ = some R) : ab_G yM p l e s m args below meth c D cA ad 1 0 (some (.inl R)) σ 48 [none] [.inl t0] σ := by
  obtain rfl := Option.some.inj h
  exact ab_iret C dX10_byteAt_48
set_option maxRecDepth 100000 in
set_option maxHeartbeats 4000000 in
theorem tX10_byteAt (l : Launch) (σ : ab_S) {R : Int32} (h : fX10_byteAt σ = some R) : ab_M l yM yX10_byteAt cX10_byteAt 1 (some .int) 0 [.inr (.inr (0, 0))] σ (some (.inl R)) σ := by
  refine ab_M_intro ndM (by decide) (Nat.le_of_ble_eq_true rfl) ?_
  intro p e s m args below meth c D cA ad C
  have C : ab_C yM p s m args meth c D cA ad cX10_byteAt 1 RX10 (some .int) := C
  refine ab_weak (lv' := [some (.inr (.inr (0, 0)))]) ⟨.inr rfl, trivial⟩ ?_
  refine ab_aload_n C dX10_byteAt_0 rfl ?_
  refine ab_getI C dX10_byteAt_1 flX10_154 rkM_0 rfl mmM_0 ?_
  refine ab_aload_n C dX10_byteAt_4 rfl ?_
  refine ab_getI C dX10_byteAt_5 flX10_157 rkM_0 rfl mmM_0 ?_
  refine ab_icmp_ge C (tgt := 47) dX10_byteAt_8 (by decide) (fun hc1 => ?_) (fun hc1 => ?_)
  · replace h := ab_pos hc1 h
    refine ab_iconst C dX10_byteAt_47 (v := 0) rfl ?_
    refine ab_weak (lv' := [none]) ⟨.inl rfl, trivial⟩ ?_
    exact gX10_byteAt_b48 C _ _ h
  · replace h := ab_neg hc1 h
    refine ab_aload_n C dX10_byteAt_11 rfl ?_
    refine ab_getI C dX10_byteAt_12 flX10_160 rkM_0 rfl mmM_0 ?_
    refine ab_if_ge C (tgt := 30) dX10_byteAt_15 (by decide) (fun hc2 => ?_) (fun hc2 => ?_)
    · replace h := ab_pos hc2 h
      refine ab_aload_n C dX10_byteAt_30 rfl ?_
      refine ab_getR C dX10_byteAt_31 flX10_36 rkM_0 rfl mmM_0 ?_
      refine ab_aload_n C dX10_byteAt_34 rfl ?_
      refine ab_getI C dX10_byteAt_35 flX10_160 rkM_0 rfl mmM_0 ?_
      refine ab_aload_n C dX10_byteAt_38 rfl ?_
      refine ab_getI C dX10_byteAt_39 flX10_154 rkM_0 rfl mmM_0 ?_
      refine ab_iadd C dX10_byteAt_42  ?_
      obtain ⟨hg3, h⟩ := ab_grd h
      refine ab_iald C dX10_byteAt_43 rkM_9 mmM_9 hg3 ?_
      refine ab_goto C (tgt := 48) dX10_byteAt_44 (by decide) ?_
      refine ab_weak (lv' := [none]) ⟨.inl rfl, trivial⟩ ?_
      exact gX10_byteAt_b48 C _ _ h
    · replace h := ab_neg hc2 h
      refine ab_aload_n C dX10_byteAt_18 rfl ?_
      refine ab_getR C dX10_byteAt_19 flX10_33 rkM_0 rfl mmM_0 ?_
      refine ab_aload_n C dX10_byteAt_22 rfl ?_
      refine ab_getI C dX10_byteAt_23 flX10_154 rkM_0 rfl mmM_0 ?_
      obtain ⟨hg4, h⟩ := ab_grd h
      refine ab_iald C dX10_byteAt_26 rkM_8 mmM_8 hg4 ?_
      refine ab_goto C (tgt := 48) dX10_byteAt_27 (by decide) ?_
      refine ab_weak (lv' := [none]) ⟨.inl rfl, trivial⟩ ?_
      exact gX10_byteAt_b48 C _ _ h
end
def fX10_nameOf (x0 : Int32) : Option Int32 := (if x0 = 97 then some 5 else (if x0 = 99 then some 2 else (if x0 = 100 then some 0 else (if x0 = 110 then some 3 else (if x0 = 114 then some 4 else (if x0 = 120 then some 1 else some ((-1))))))))
section
variable {p : Program} {l : Launch} {e : Env} {s : State} {m : MethodId} {args : Array Value} {below : List Frame} {meth : Method} {c : Code} {D : va_G} {cA : Nat → ClassId} {ad : Nat → Nat → Nat}
set_option maxRecDepth 100000 in
set_option maxHeartbeats 4000000 in
theorem tX10_nameOf (l : Launch) (x0 : Int32) (σ : ab_S) {R : Int32} (h : fX10_nameOf x0 = some R) : ab_M l yM yX10_nameOf cX10_nameOf 1 (some .int) 0 [.inl x0] σ (some (.inl R)) σ := by
  refine ab_M_intro ndM (by decide) (Nat.le_of_ble_eq_true rfl) ?_
  intro p e s m args below meth c D cA ad C
  have C : ab_C yM p s m args meth c D cA ad cX10_nameOf 1 RX10 (some .int) := C
  refine ab_weak (lv' := [some (.inl x0)]) ⟨.inr rfl, trivial⟩ ?_
  refine ab_iload_n C dX10_nameOf_0 rfl ?_
  by_cases hc1 : x0 = 97
  · replace h := ab_pos hc1 h
    refine ab_lsw C (off := 69) (tgt := 70) dX10_nameOf_1.1 (by decide) (by rw [hc1]; decide) (by decide) ?_
    refine ab_iconst C dX10_nameOf_70 (v := 5) rfl ?_
    obtain rfl := Option.some.inj h
    exact ab_iret C dX10_nameOf_71
  · replace h := ab_neg hc1 h
    by_cases hc2 : x0 = 99
    · replace h := ab_pos hc2 h
      refine ab_lsw C (off := 63) (tgt := 64) dX10_nameOf_1.1 (by decide) (by rw [hc2]; decide) (by decide) ?_
      refine ab_iconst C dX10_nameOf_64 (v := 2) rfl ?_
      obtain rfl := Option.some.inj h
      exact ab_iret C dX10_nameOf_65
    · replace h := ab_neg hc2 h
      by_cases hc3 : x0 = 100
      · replace h := ab_pos hc3 h
        refine ab_lsw C (off := 59) (tgt := 60) dX10_nameOf_1.1 (by decide) (by rw [hc3]; decide) (by decide) ?_
        refine ab_iconst C dX10_nameOf_60 (v := 0) rfl ?_
        obtain rfl := Option.some.inj h
        exact ab_iret C dX10_nameOf_61
      · replace h := ab_neg hc3 h
        by_cases hc4 : x0 = 110
        · replace h := ab_pos hc4 h
          refine ab_lsw C (off := 65) (tgt := 66) dX10_nameOf_1.1 (by decide) (by rw [hc4]; decide) (by decide) ?_
          refine ab_iconst C dX10_nameOf_66 (v := 3) rfl ?_
          obtain rfl := Option.some.inj h
          exact ab_iret C dX10_nameOf_67
        · replace h := ab_neg hc4 h
          by_cases hc5 : x0 = 114
          · replace h := ab_pos hc5 h
            refine ab_lsw C (off := 67) (tgt := 68) dX10_nameOf_1.1 (by decide) (by rw [hc5]; decide) (by decide) ?_
            refine ab_iconst C dX10_nameOf_68 (v := 4) rfl ?_
            obtain rfl := Option.some.inj h
            exact ab_iret C dX10_nameOf_69
          · replace h := ab_neg hc5 h
            by_cases hc6 : x0 = 120
            · replace h := ab_pos hc6 h
              refine ab_lsw C (off := 61) (tgt := 62) dX10_nameOf_1.1 (by decide) (by rw [hc6]; decide) (by decide) ?_
              refine ab_iconst C dX10_nameOf_62 (v := 1) rfl ?_
              obtain rfl := Option.some.inj h
              exact ab_iret C dX10_nameOf_63
            · replace h := ab_neg hc6 h
              refine ab_lsw C (off := 71) (tgt := 72) dX10_nameOf_1.1 (by decide) (by show Op.lookupswitch.offset [(97, 69), (99, 63), (100, 59), (110, 65), (114, 67), (120, 61)] 71 _ = 71; rw [lv_osw hc1 (by decide), lv_osw hc2 (by decide), lv_osw hc3 (by decide), lv_osw hc4 (by decide), lv_osw hc5 (by decide), lv_osw hc6 (by decide)]; rfl) (by decide) ?_
              refine ab_iconst C dX10_nameOf_72 (v := (-1)) rfl ?_
              obtain rfl := Option.some.inj h
              exact ab_iret C dX10_nameOf_73
end
def fX10_takes_b15 (σ : ab_S) : Option (Int32 × ab_S) := some (0, σ)
def fX10_takes (x1 : Int32) (σ : ab_S) : Option (Int32 × ab_S) := (if 0 ≤ (σ.1 0 0 20) then fX10_takes_b15 σ else (fX10_byteAt σ).bind fun q2 => (if q2 = x1 then ab_k (ab_si σ 0 0 18 ((σ.1 0 0 18) + 1)) fun σ4 => some (1, σ4) else fX10_takes_b15 σ))
section
variable {p : Program} {l : Launch} {e : Env} {s : State} {m : MethodId} {args : Array Value} {below : List Frame} {meth : Method} {c : Code} {D : va_G} {cA : Nat → ClassId} {ad : Nat → Nat → Nat}
set_option maxRecDepth 100000 in
set_option maxHeartbeats 4000000 in
theorem gX10_takes_b15 {R : (Int32 × ab_S)} (C : ab_C yM p s m args meth c D cA ad cX10_takes 2 RX10 (some .boolean)) (σ : ab_S) (h : fX10_takes_b15 σ = some R) : ab_G yM p l e s m args below meth c D cA ad 2 1 (some (.inl R.1)) R.2 15 [none, none] [] σ := by
  refine ab_iconst C dX10_takes_15 (v := 0) rfl ?_
  obtain rfl := Option.some.inj h
  exact ab_zret C dX10_takes_16 rfl
set_option maxRecDepth 100000 in
set_option maxHeartbeats 4000000 in
theorem tX10_takes (l : Launch) (x1 : Int32) (σ : ab_S) {R : (Int32 × ab_S)} (h : fX10_takes x1 σ = some R) : ab_M l yM yX10_takes cX10_takes 2 (some .boolean) 1 [.inr (.inr (0, 0)), .inl x1] σ (some (.inl R.1)) R.2 := by
  refine ab_M_intro ndM (by decide) (Nat.le_of_ble_eq_true rfl) ?_
  intro p e s m args below meth c D cA ad C
  have C : ab_C yM p s m args meth c D cA ad cX10_takes 2 RX10 (some .boolean) := C
  refine ab_weak (lv' := [some (.inr (.inr (0, 0))), some (.inl x1)]) ⟨.inr rfl, ⟨.inr rfl, trivial⟩⟩ ?_
  refine ab_aload_n C dX10_takes_0 rfl ?_
  refine ab_getI C dX10_takes_1 flX10_163 rkM_0 rfl mmM_0 ?_
  refine ab_if_ge C (tgt := 15) dX10_takes_4 (by decide) (fun hc1 => ?_) (fun hc1 => ?_)
  · replace h := ab_pos hc1 h
    refine ab_weak (lv' := [none, none]) ⟨.inl rfl, ⟨.inl rfl, trivial⟩⟩ ?_
    exact gX10_takes_b15 C _ h
  · replace h := ab_neg hc1 h
    refine ab_aload_n C dX10_takes_7 rfl ?_
    obtain ⟨q2, hq2, h⟩ := ab_bind h
    refine ab_inv1 C dX10_takes_8 mlX10_166 yvX10_byteAt rkM_0 ⟨_, _, rfl⟩ mmM_0 (tX10_byteAt l _ hq2) (Nat.le_of_ble_eq_true rfl) (Nat.le_of_ble_eq_true rfl) rfl (Nat.le_of_ble_eq_true rfl) ?_
    refine ab_iload_n C dX10_takes_11 rfl ?_
    refine ab_icmp_eq C (tgt := 17) dX10_takes_12 (by decide) (fun hc3 => ?_) (fun hc3 => ?_)
    · replace h := ab_pos hc3 h
      refine ab_aload_n C dX10_takes_17 rfl ?_
      refine ab_dup C dX10_takes_18 rfl ?_
      refine ab_getI C dX10_takes_19 flX10_154 rkM_0 rfl mmM_0 ?_
      refine ab_iconst C dX10_takes_22 (v := 1) rfl ?_
      refine ab_iadd C dX10_takes_23  ?_
      refine ab_putI C dX10_takes_24 fpX10_154 rkM_0 rfl mmM_0 rfl rfl ?_
      refine ab_nmS (fun σ4 eσ4 => ?_)
      replace h := ab_kh eσ4 h
      refine ab_iconst C dX10_takes_27 (v := 1) rfl ?_
      obtain rfl := Option.some.inj h
      exact ab_zret C dX10_takes_28 rfl
    · replace h := ab_neg hc3 h
      refine ab_weak (lv' := [none, none]) ⟨.inl rfl, ⟨.inl rfl, trivial⟩⟩ ?_
      exact gX10_takes_b15 C _ h
end
def fX10_wrong_b19 (t1 : Int32) (σ : ab_S) : Option (Int32 × ab_S) := ab_k (ab_si σ 0 0 20 t1) fun σ1 => some (0, σ1)
def fX10_wrong (σ : ab_S) : Option (Int32 × ab_S) := (if 0 ≤ (σ.1 0 0 20) then fX10_wrong_b19 (σ.1 0 0 20) σ else fX10_wrong_b19 (σ.1 0 0 18) σ)
section
variable {p : Program} {l : Launch} {e : Env} {s : State} {m : MethodId} {args : Array Value} {below : List Frame} {meth : Method} {c : Code} {D : va_G} {cA : Nat → ClassId} {ad : Nat → Nat → Nat}
set_option maxRecDepth 100000 in
set_option maxHeartbeats 4000000 in
theorem gX10_wrong_b19 {R : (Int32 × ab_S)} (C : ab_C yM p s m args meth c D cA ad cX10_wrong 1 RX10 (some .int)) (t1 : Int32) (σ : ab_S) (h : fX10_wrong_b19 t1 σ = some R) : ab_G yM p l e s m args below meth c D cA ad 1 0 (some (.inl R.1)) R.2 19 [none] [.inl t1, .inr (.inr (0, 0))] σ := by
  refine ab_putI C dX10_wrong_19 fpX10_163 rkM_0 rfl mmM_0 rfl rfl ?_
  refine ab_nmS (fun σ1 eσ1 => ?_)
  replace h := ab_kh eσ1 h
  refine ab_iconst C dX10_wrong_22 (v := 0) rfl ?_
  obtain rfl := Option.some.inj h
  exact ab_iret C dX10_wrong_23
set_option maxRecDepth 100000 in
set_option maxHeartbeats 4000000 in
theorem tX10_wrong (l : Launch) (σ : ab_S) {R : (Int32 × ab_S)} (h : fX10_wrong σ = some R) : ab_M l yM yX10_wrong cX10_wrong 1 (some .int) 0 [.inr (.inr (0, 0))] σ (some (.inl R.1)) R.2 := by
  refine ab_M_intro ndM (by decide) (Nat.le_of_ble_eq_true rfl) ?_
  intro p e s m args below meth c D cA ad C
  have C : ab_C yM p s m args meth c D cA ad cX10_wrong 1 RX10 (some .int) := C
  refine ab_weak (lv' := [some (.inr (.inr (0, 0)))]) ⟨.inr rfl, trivial⟩ ?_
  refine ab_aload_n C dX10_wrong_0 rfl ?_
  refine ab_aload_n C dX10_wrong_1 rfl ?_
  refine ab_getI C dX10_wrong_2 flX10_163 rkM_0 rfl mmM_0 ?_
  refine ab_if_ge C (tgt := 15) dX10_wrong_5 (by decide) (fun hc1 => ?_) (fun hc1 => ?_)
  · replace h := ab_pos hc1 h
    refine ab_aload_n C dX10_wrong_15 rfl ?_
    refine ab_getI C dX10_wrong_16 flX10_163 rkM_0 rfl mmM_0 ?_
    refine ab_weak (lv' := [none]) ⟨.inl rfl, trivial⟩ ?_
    exact gX10_wrong_b19 C _ _ h
  · replace h := ab_neg hc1 h
    refine ab_aload_n C dX10_wrong_8 rfl ?_
    refine ab_getI C dX10_wrong_9 flX10_154 rkM_0 rfl mmM_0 ?_
    refine ab_goto C (tgt := 19) dX10_wrong_12 (by decide) ?_
    refine ab_weak (lv' := [none]) ⟨.inl rfl, trivial⟩ ?_
    exact gX10_wrong_b19 C _ _ h
end
def fX10_both_b32 (rc0 : ab_S → Option (Int32 × ab_S)) (rc1 : ab_S → Option (Int32 × ab_S)) (rc2 : ab_S → Option (Int32 × ab_S)) (rc3 : ab_S → Option (Int32 × ab_S)) (rc4 : ab_S → Option (Int32 × ab_S)) (rc5 : ab_S → Option (Int32 × ab_S)) (kk5 : Int32 → ab_S → Option (Int32 × ab_S)) (t0 : Int32) (σ : ab_S) : Option (Int32 × ab_S) := kk5 t0 σ
def fX10_both_b31 (rc0 : ab_S → Option (Int32 × ab_S)) (rc1 : ab_S → Option (Int32 × ab_S)) (rc2 : ab_S → Option (Int32 × ab_S)) (rc3 : ab_S → Option (Int32 × ab_S)) (rc4 : ab_S → Option (Int32 × ab_S)) (rc5 : ab_S → Option (Int32 × ab_S)) (kk5 : Int32 → ab_S → Option (Int32 × ab_S)) (σ : ab_S) : Option (Int32 × ab_S) := fX10_both_b32 rc0 rc1 rc2 rc3 rc4 rc5 kk5 0 σ
def fX10_both_b5_o (rc0 : ab_S → Option (Int32 × ab_S)) (rc1 : ab_S → Option (Int32 × ab_S)) (rc2 : ab_S → Option (Int32 × ab_S)) (rc3 : ab_S → Option (Int32 × ab_S)) (rc4 : ab_S → Option (Int32 × ab_S)) (rc5 : ab_S → Option (Int32 × ab_S)) (kk5 : Int32 → ab_S → Option (Int32 × ab_S)) (v1 : Int32) (σ : ab_S) : Option (Int32 × ab_S) := (fX10_takes 38 σ).bind fun q1 => (if q1.1 = 0 then some (v1, q1.2) else (rc1 q1.2).bind fun q3 => (if v1 = 0 then fX10_both_b31 rc0 rc1 rc2 rc3 rc4 rc5 kk5 q3.2 else (if q3.1 = 0 then fX10_both_b31 rc0 rc1 rc2 rc3 rc4 rc5 kk5 q3.2 else fX10_both_b32 rc0 rc1 rc2 rc3 rc4 rc5 kk5 1 q3.2)))
def fX10_both_b5 (rc0 : ab_S → Option (Int32 × ab_S)) (rc1 : ab_S → Option (Int32 × ab_S)) (rc2 : ab_S → Option (Int32 × ab_S)) (rc3 : ab_S → Option (Int32 × ab_S)) (rc4 : ab_S → Option (Int32 × ab_S)) (rc5 : ab_S → Option (Int32 × ab_S)) : Nat → Int32 → ab_S → Option (Int32 × ab_S)
  | 0 => fun _ _ => none
  | n + 1 => fX10_both_b5_o rc0 rc1 rc2 rc3 rc4 rc5 (fX10_both_b5 rc0 rc1 rc2 rc3 rc4 rc5 n)
def fX10_both_o (rc0 : ab_S → Option (Int32 × ab_S)) (rc1 : ab_S → Option (Int32 × ab_S)) (rc2 : ab_S → Option (Int32 × ab_S)) (rc3 : ab_S → Option (Int32 × ab_S)) (rc4 : ab_S → Option (Int32 × ab_S)) (rc5 : ab_S → Option (Int32 × ab_S)) (σ : ab_S) : Option (Int32 × ab_S) := (rc1 σ).bind fun q1 => fX10_both_b5 rc0 rc1 rc2 rc3 rc4 rc5 ab_N q1.1 q1.2
def fX10_compared_b35 (rc0 : ab_S → Option (Int32 × ab_S)) (rc1 : ab_S → Option (Int32 × ab_S)) (rc2 : ab_S → Option (Int32 × ab_S)) (rc3 : ab_S → Option (Int32 × ab_S)) (rc4 : ab_S → Option (Int32 × ab_S)) (rc5 : ab_S → Option (Int32 × ab_S)) (v1 : Int32) (σ : ab_S) : Option (Int32 × ab_S) := some (v1, σ)
def fX10_compared_b90 (rc0 : ab_S → Option (Int32 × ab_S)) (rc1 : ab_S → Option (Int32 × ab_S)) (rc2 : ab_S → Option (Int32 × ab_S)) (rc3 : ab_S → Option (Int32 × ab_S)) (rc4 : ab_S → Option (Int32 × ab_S)) (rc5 : ab_S → Option (Int32 × ab_S)) (t0 : Int32) (σ : ab_S) : Option (Int32 × ab_S) := some (t0, σ)
def fX10_compared_b89 (rc0 : ab_S → Option (Int32 × ab_S)) (rc1 : ab_S → Option (Int32 × ab_S)) (rc2 : ab_S → Option (Int32 × ab_S)) (rc3 : ab_S → Option (Int32 × ab_S)) (rc4 : ab_S → Option (Int32 × ab_S)) (rc5 : ab_S → Option (Int32 × ab_S)) (σ : ab_S) : Option (Int32 × ab_S) := fX10_compared_b90 rc0 rc1 rc2 rc3 rc4 rc5 0 σ
def fX10_compared_b85 (rc0 : ab_S → Option (Int32 × ab_S)) (rc1 : ab_S → Option (Int32 × ab_S)) (rc2 : ab_S → Option (Int32 × ab_S)) (rc3 : ab_S → Option (Int32 × ab_S)) (rc4 : ab_S → Option (Int32 × ab_S)) (rc5 : ab_S → Option (Int32 × ab_S)) (σ : ab_S) : Option (Int32 × ab_S) := fX10_compared_b90 rc0 rc1 rc2 rc3 rc4 rc5 1 σ
def fX10_compared_b37 (rc0 : ab_S → Option (Int32 × ab_S)) (rc1 : ab_S → Option (Int32 × ab_S)) (rc2 : ab_S → Option (Int32 × ab_S)) (rc3 : ab_S → Option (Int32 × ab_S)) (rc4 : ab_S → Option (Int32 × ab_S)) (rc5 : ab_S → Option (Int32 × ab_S)) (v1 : Int32) (v2 : Int32) (σ : ab_S) : Option (Int32 × ab_S) := ab_k (ab_si σ 0 0 18 ((σ.1 0 0 18) + 1)) fun σ1 => (rc5 σ1).bind fun q2 => (if v2 = 60 then (if q2.1 ≤ v1 then fX10_compared_b89 rc0 rc1 rc2 rc3 rc4 rc5 q2.2 else fX10_compared_b85 rc0 rc1 rc2 rc3 rc4 rc5 q2.2) else (if v2 = 61 then (if v1 = q2.1 then fX10_compared_b85 rc0 rc1 rc2 rc3 rc4 rc5 q2.2 else fX10_compared_b89 rc0 rc1 rc2 rc3 rc4 rc5 q2.2) else (if v1 ≤ q2.1 then fX10_compared_b89 rc0 rc1 rc2 rc3 rc4 rc5 q2.2 else fX10_compared_b85 rc0 rc1 rc2 rc3 rc4 rc5 q2.2)))
def fX10_compared_o (rc0 : ab_S → Option (Int32 × ab_S)) (rc1 : ab_S → Option (Int32 × ab_S)) (rc2 : ab_S → Option (Int32 × ab_S)) (rc3 : ab_S → Option (Int32 × ab_S)) (rc4 : ab_S → Option (Int32 × ab_S)) (rc5 : ab_S → Option (Int32 × ab_S)) (σ : ab_S) : Option (Int32 × ab_S) := (rc5 σ).bind fun q1 => (fX10_byteAt q1.2).bind fun q2 => (if 0 ≤ (q1.2.1 0 0 20) then fX10_compared_b35 rc0 rc1 rc2 rc3 rc4 rc5 q1.1 q1.2 else (if q2 = 60 then fX10_compared_b37 rc0 rc1 rc2 rc3 rc4 rc5 q1.1 q2 q1.2 else (if q2 = 61 then fX10_compared_b37 rc0 rc1 rc2 rc3 rc4 rc5 q1.1 q2 q1.2 else (if q2 = 62 then fX10_compared_b37 rc0 rc1 rc2 rc3 rc4 rc5 q1.1 q2 q1.2 else fX10_compared_b35 rc0 rc1 rc2 rc3 rc4 rc5 q1.1 q1.2))))
def fX10_either_b32 (rc0 : ab_S → Option (Int32 × ab_S)) (rc1 : ab_S → Option (Int32 × ab_S)) (rc2 : ab_S → Option (Int32 × ab_S)) (rc3 : ab_S → Option (Int32 × ab_S)) (rc4 : ab_S → Option (Int32 × ab_S)) (rc5 : ab_S → Option (Int32 × ab_S)) (kk5 : Int32 → ab_S → Option (Int32 × ab_S)) (t0 : Int32) (σ : ab_S) : Option (Int32 × ab_S) := kk5 t0 σ
def fX10_either_b27 (rc0 : ab_S → Option (Int32 × ab_S)) (rc1 : ab_S → Option (Int32 × ab_S)) (rc2 : ab_S → Option (Int32 × ab_S)) (rc3 : ab_S → Option (Int32 × ab_S)) (rc4 : ab_S → Option (Int32 × ab_S)) (rc5 : ab_S → Option (Int32 × ab_S)) (kk5 : Int32 → ab_S → Option (Int32 × ab_S)) (σ : ab_S) : Option (Int32 × ab_S) := fX10_either_b32 rc0 rc1 rc2 rc3 rc4 rc5 kk5 1 σ
def fX10_either_b5_o (rc0 : ab_S → Option (Int32 × ab_S)) (rc1 : ab_S → Option (Int32 × ab_S)) (rc2 : ab_S → Option (Int32 × ab_S)) (rc3 : ab_S → Option (Int32 × ab_S)) (rc4 : ab_S → Option (Int32 × ab_S)) (rc5 : ab_S → Option (Int32 × ab_S)) (kk5 : Int32 → ab_S → Option (Int32 × ab_S)) (v1 : Int32) (σ : ab_S) : Option (Int32 × ab_S) := (fX10_takes 124 σ).bind fun q1 => (if q1.1 = 0 then some (v1, q1.2) else (rc0 q1.2).bind fun q3 => (if v1 = 0 then (if q3.1 = 0 then fX10_either_b32 rc0 rc1 rc2 rc3 rc4 rc5 kk5 0 q3.2 else fX10_either_b27 rc0 rc1 rc2 rc3 rc4 rc5 kk5 q3.2) else fX10_either_b27 rc0 rc1 rc2 rc3 rc4 rc5 kk5 q3.2))
def fX10_either_b5 (rc0 : ab_S → Option (Int32 × ab_S)) (rc1 : ab_S → Option (Int32 × ab_S)) (rc2 : ab_S → Option (Int32 × ab_S)) (rc3 : ab_S → Option (Int32 × ab_S)) (rc4 : ab_S → Option (Int32 × ab_S)) (rc5 : ab_S → Option (Int32 × ab_S)) : Nat → Int32 → ab_S → Option (Int32 × ab_S)
  | 0 => fun _ _ => none
  | n + 1 => fX10_either_b5_o rc0 rc1 rc2 rc3 rc4 rc5 (fX10_either_b5 rc0 rc1 rc2 rc3 rc4 rc5 n)
def fX10_either_o (rc0 : ab_S → Option (Int32 × ab_S)) (rc1 : ab_S → Option (Int32 × ab_S)) (rc2 : ab_S → Option (Int32 × ab_S)) (rc3 : ab_S → Option (Int32 × ab_S)) (rc4 : ab_S → Option (Int32 × ab_S)) (rc5 : ab_S → Option (Int32 × ab_S)) (σ : ab_S) : Option (Int32 × ab_S) := (rc0 σ).bind fun q1 => fX10_either_b5 rc0 rc1 rc2 rc3 rc4 rc5 ab_N q1.1 q1.2
def fX10_one_b144 (rc0 : ab_S → Option (Int32 × ab_S)) (rc1 : ab_S → Option (Int32 × ab_S)) (rc2 : ab_S → Option (Int32 × ab_S)) (rc3 : ab_S → Option (Int32 × ab_S)) (rc4 : ab_S → Option (Int32 × ab_S)) (rc5 : ab_S → Option (Int32 × ab_S)) (t0 : Int32) (σ : ab_S) : Option (Int32 × ab_S) := some (t0, σ)
def fX10_one_b104 (rc0 : ab_S → Option (Int32 × ab_S)) (rc1 : ab_S → Option (Int32 × ab_S)) (rc2 : ab_S → Option (Int32 × ab_S)) (rc3 : ab_S → Option (Int32 × ab_S)) (rc4 : ab_S → Option (Int32 × ab_S)) (rc5 : ab_S → Option (Int32 × ab_S)) (v1 : Int32) (v2 : Int32) (σ : ab_S) : Option (Int32 × ab_S) := ab_k (ab_si σ 0 0 21 ((σ.1 0 0 21) - 1)) fun σ1 => (if v1 = 40 then fX10_one_b144 rc0 rc1 rc2 rc3 rc4 rc5 v2 σ1 else (if v1 = 45 then fX10_one_b144 rc0 rc1 rc2 rc3 rc4 rc5 (-v2) σ1 else (if v2 = 0 then fX10_one_b144 rc0 rc1 rc2 rc3 rc4 rc5 1 σ1 else fX10_one_b144 rc0 rc1 rc2 rc3 rc4 rc5 0 σ1)))
def fX10_one_b83 (rc0 : ab_S → Option (Int32 × ab_S)) (rc1 : ab_S → Option (Int32 × ab_S)) (rc2 : ab_S → Option (Int32 × ab_S)) (rc3 : ab_S → Option (Int32 × ab_S)) (rc4 : ab_S → Option (Int32 × ab_S)) (rc5 : ab_S → Option (Int32 × ab_S)) (v1 : Int32) (t0 : Int32) (σ : ab_S) : Option (Int32 × ab_S) := (if v1 = 40 then (fX10_takes 41 σ).bind fun q2 => (if q2.1 = 0 then (fX10_wrong q2.2).bind fun q4 => some (q4.1, q4.2) else fX10_one_b104 rc0 rc1 rc2 rc3 rc4 rc5 v1 t0 q2.2) else fX10_one_b104 rc0 rc1 rc2 rc3 rc4 rc5 v1 t0 σ)
def fX10_one_b32 (rc0 : ab_S → Option (Int32 × ab_S)) (rc1 : ab_S → Option (Int32 × ab_S)) (rc2 : ab_S → Option (Int32 × ab_S)) (rc3 : ab_S → Option (Int32 × ab_S)) (rc4 : ab_S → Option (Int32 × ab_S)) (rc5 : ab_S → Option (Int32 × ab_S)) (v1 : Int32) (σ : ab_S) : Option (Int32 × ab_S) := (if (σ.1 0 0 21) = 6 then (fX10_wrong σ).bind fun q7 => some (q7.1, q7.2) else ab_k (ab_si σ 0 0 21 ((σ.1 0 0 21) + 1)) fun σ2 => ab_k (ab_si σ2 0 0 18 ((σ2.1 0 0 18) + 1)) fun σ3 => (if v1 = 40 then (rc2 σ3).bind fun q6 => fX10_one_b83 rc0 rc1 rc2 rc3 rc4 rc5 v1 q6.1 q6.2 else (rc3 σ3).bind fun q5 => fX10_one_b83 rc0 rc1 rc2 rc3 rc4 rc5 v1 q5.1 q5.2))
def fX10_one_b242 (rc0 : ab_S → Option (Int32 × ab_S)) (rc1 : ab_S → Option (Int32 × ab_S)) (rc2 : ab_S → Option (Int32 × ab_S)) (rc3 : ab_S → Option (Int32 × ab_S)) (rc4 : ab_S → Option (Int32 × ab_S)) (rc5 : ab_S → Option (Int32 × ab_S)) (t0 : Int32) (σ : ab_S) : Option (Int32 × ab_S) := some (t0, σ)
def fX10_one_b229 (rc0 : ab_S → Option (Int32 × ab_S)) (rc1 : ab_S → Option (Int32 × ab_S)) (rc2 : ab_S → Option (Int32 × ab_S)) (rc3 : ab_S → Option (Int32 × ab_S)) (rc4 : ab_S → Option (Int32 × ab_S)) (rc5 : ab_S → Option (Int32 × ab_S)) (v3 : Int32) (v4 : Int32) (σ : ab_S) : Option (Int32 × ab_S) := (if v4 = 0 then (fX10_wrong σ).bind fun q2 => fX10_one_b242 rc0 rc1 rc2 rc3 rc4 rc5 q2.1 q2.2 else fX10_one_b242 rc0 rc1 rc2 rc3 rc4 rc5 v3 σ)
def fX10_one_b176_o (rc0 : ab_S → Option (Int32 × ab_S)) (rc1 : ab_S → Option (Int32 × ab_S)) (rc2 : ab_S → Option (Int32 × ab_S)) (rc3 : ab_S → Option (Int32 × ab_S)) (rc4 : ab_S → Option (Int32 × ab_S)) (rc5 : ab_S → Option (Int32 × ab_S)) (kk176 : Int32 → Int32 → ab_S → Option (Int32 × ab_S)) (v3 : Int32) (v4 : Int32) (σ : ab_S) : Option (Int32 × ab_S) := (if 4 ≤ v4 then fX10_one_b229 rc0 rc1 rc2 rc3 rc4 rc5 v3 v4 σ else (fX10_byteAt σ).bind fun q2 => (if q2 < 48 then fX10_one_b229 rc0 rc1 rc2 rc3 rc4 rc5 v3 v4 σ else (fX10_byteAt σ).bind fun q4 => (if 57 < q4 then fX10_one_b229 rc0 rc1 rc2 rc3 rc4 rc5 v3 v4 σ else (fX10_byteAt σ).bind fun q6 => ab_k (ab_si σ 0 0 18 ((σ.1 0 0 18) + 1)) fun σ7 => kk176 (((10 * v3) + q6) - 48) (v4 + 1) σ7)))
def fX10_one_b176 (rc0 : ab_S → Option (Int32 × ab_S)) (rc1 : ab_S → Option (Int32 × ab_S)) (rc2 : ab_S → Option (Int32 × ab_S)) (rc3 : ab_S → Option (Int32 × ab_S)) (rc4 : ab_S → Option (Int32 × ab_S)) (rc5 : ab_S → Option (Int32 × ab_S)) : Nat → Int32 → Int32 → ab_S → Option (Int32 × ab_S)
  | 0 => fun _ _ _ => none
  | n + 1 => fX10_one_b176_o rc0 rc1 rc2 rc3 rc4 rc5 (fX10_one_b176 rc0 rc1 rc2 rc3 rc4 rc5 n)
def fX10_one_o (rc0 : ab_S → Option (Int32 × ab_S)) (rc1 : ab_S → Option (Int32 × ab_S)) (rc2 : ab_S → Option (Int32 × ab_S)) (rc3 : ab_S → Option (Int32 × ab_S)) (rc4 : ab_S → Option (Int32 × ab_S)) (rc5 : ab_S → Option (Int32 × ab_S)) (σ : ab_S) : Option (Int32 × ab_S) := (if (σ.1 0 0 20) < 0 then (fX10_byteAt σ).bind fun q2 => (if q2 = 33 then fX10_one_b32 rc0 rc1 rc2 rc3 rc4 rc5 q2 σ else (if q2 = 45 then fX10_one_b32 rc0 rc1 rc2 rc3 rc4 rc5 q2 σ else (if q2 = 40 then fX10_one_b32 rc0 rc1 rc2 rc3 rc4 rc5 q2 σ else (fX10_nameOf q2).bind fun q6 => (if q6 < 0 then fX10_one_b176 rc0 rc1 rc2 rc3 rc4 rc5 ab_N 0 0 σ else ab_k (ab_si σ 0 0 18 ((σ.1 0 0 18) + 1)) fun σ8 => (if ab_inb q6 6 = true then some (σ8.1 11 0 q6.toNatClampNeg, σ8) else none))))) else some (0, σ))
def fX10_product_b94 (rc0 : ab_S → Option (Int32 × ab_S)) (rc1 : ab_S → Option (Int32 × ab_S)) (rc2 : ab_S → Option (Int32 × ab_S)) (rc3 : ab_S → Option (Int32 × ab_S)) (rc4 : ab_S → Option (Int32 × ab_S)) (rc5 : ab_S → Option (Int32 × ab_S)) (v1 : Int32) (σ : ab_S) : Option (Int32 × ab_S) := some (v1, σ)
def fX10_product_b85 (rc0 : ab_S → Option (Int32 × ab_S)) (rc1 : ab_S → Option (Int32 × ab_S)) (rc2 : ab_S → Option (Int32 × ab_S)) (rc3 : ab_S → Option (Int32 × ab_S)) (rc4 : ab_S → Option (Int32 × ab_S)) (rc5 : ab_S → Option (Int32 × ab_S)) (kk10 : Int32 → Int32 → ab_S → Option (Int32 × ab_S)) (t0 : Int32) (σ : ab_S) : Option (Int32 × ab_S) := (fX10_byteAt σ).bind fun q1 => kk10 t0 q1 σ
def fX10_product_b35 (rc0 : ab_S → Option (Int32 × ab_S)) (rc1 : ab_S → Option (Int32 × ab_S)) (rc2 : ab_S → Option (Int32 × ab_S)) (rc3 : ab_S → Option (Int32 × ab_S)) (rc4 : ab_S → Option (Int32 × ab_S)) (rc5 : ab_S → Option (Int32 × ab_S)) (kk10 : Int32 → Int32 → ab_S → Option (Int32 × ab_S)) (v1 : Int32) (v2 : Int32) (σ : ab_S) : Option (Int32 × ab_S) := ab_k (ab_si σ 0 0 18 ((σ.1 0 0 18) + 1)) fun σ1 => (rc3 σ1).bind fun q2 => (if v2 = 42 then fX10_product_b85 rc0 rc1 rc2 rc3 rc4 rc5 kk10 (v1 * q2.1) q2.2 else (if q2.1 = 0 then fX10_product_b85 rc0 rc1 rc2 rc3 rc4 rc5 kk10 0 q2.2 else (if v2 = 47 then (if q2.1 = 0 then none else fX10_product_b85 rc0 rc1 rc2 rc3 rc4 rc5 kk10 (v1 / q2.1) q2.2) else (if q2.1 = 0 then none else fX10_product_b85 rc0 rc1 rc2 rc3 rc4 rc5 kk10 (ab_mod v1 q2.1) q2.2))))
def fX10_product_b10_o (rc0 : ab_S → Option (Int32 × ab_S)) (rc1 : ab_S → Option (Int32 × ab_S)) (rc2 : ab_S → Option (Int32 × ab_S)) (rc3 : ab_S → Option (Int32 × ab_S)) (rc4 : ab_S → Option (Int32 × ab_S)) (rc5 : ab_S → Option (Int32 × ab_S)) (kk10 : Int32 → Int32 → ab_S → Option (Int32 × ab_S)) (v1 : Int32) (v2 : Int32) (σ : ab_S) : Option (Int32 × ab_S) := (if 0 ≤ (σ.1 0 0 20) then fX10_product_b94 rc0 rc1 rc2 rc3 rc4 rc5 v1 σ else (if v2 = 42 then fX10_product_b35 rc0 rc1 rc2 rc3 rc4 rc5 kk10 v1 v2 σ else (if v2 = 47 then fX10_product_b35 rc0 rc1 rc2 rc3 rc4 rc5 kk10 v1 v2 σ else (if v2 = 37 then fX10_product_b35 rc0 rc1 rc2 rc3 rc4 rc5 kk10 v1 v2 σ else fX10_product_b94 rc0 rc1 rc2 rc3 rc4 rc5 v1 σ))))
def fX10_product_b10 (rc0 : ab_S → Option (Int32 × ab_S)) (rc1 : ab_S → Option (Int32 × ab_S)) (rc2 : ab_S → Option (Int32 × ab_S)) (rc3 : ab_S → Option (Int32 × ab_S)) (rc4 : ab_S → Option (Int32 × ab_S)) (rc5 : ab_S → Option (Int32 × ab_S)) : Nat → Int32 → Int32 → ab_S → Option (Int32 × ab_S)
  | 0 => fun _ _ _ => none
  | n + 1 => fX10_product_b10_o rc0 rc1 rc2 rc3 rc4 rc5 (fX10_product_b10 rc0 rc1 rc2 rc3 rc4 rc5 n)
def fX10_product_o (rc0 : ab_S → Option (Int32 × ab_S)) (rc1 : ab_S → Option (Int32 × ab_S)) (rc2 : ab_S → Option (Int32 × ab_S)) (rc3 : ab_S → Option (Int32 × ab_S)) (rc4 : ab_S → Option (Int32 × ab_S)) (rc5 : ab_S → Option (Int32 × ab_S)) (σ : ab_S) : Option (Int32 × ab_S) := (rc3 σ).bind fun q1 => (fX10_byteAt q1.2).bind fun q2 => fX10_product_b10 rc0 rc1 rc2 rc3 rc4 rc5 ab_N q1.1 q2 q1.2
def fX10_sums_b77 (rc0 : ab_S → Option (Int32 × ab_S)) (rc1 : ab_S → Option (Int32 × ab_S)) (rc2 : ab_S → Option (Int32 × ab_S)) (rc3 : ab_S → Option (Int32 × ab_S)) (rc4 : ab_S → Option (Int32 × ab_S)) (rc5 : ab_S → Option (Int32 × ab_S)) (v1 : Int32) (σ : ab_S) : Option (Int32 × ab_S) := some (v1, σ)
def fX10_sums_b73 (rc0 : ab_S → Option (Int32 × ab_S)) (rc1 : ab_S → Option (Int32 × ab_S)) (rc2 : ab_S → Option (Int32 × ab_S)) (rc3 : ab_S → Option (Int32 × ab_S)) (rc4 : ab_S → Option (Int32 × ab_S)) (rc5 : ab_S → Option (Int32 × ab_S)) (kk5 : Int32 → ab_S → Option (Int32 × ab_S)) (t0 : Int32) (σ : ab_S) : Option (Int32 × ab_S) := kk5 t0 σ
def fX10_sums_b44 (rc0 : ab_S → Option (Int32 × ab_S)) (rc1 : ab_S → Option (Int32 × ab_S)) (rc2 : ab_S → Option (Int32 × ab_S)) (rc3 : ab_S → Option (Int32 × ab_S)) (rc4 : ab_S → Option (Int32 × ab_S)) (rc5 : ab_S → Option (Int32 × ab_S)) (kk5 : Int32 → ab_S → Option (Int32 × ab_S)) (v1 : Int32) (t0 : Int32) (σ : ab_S) : Option (Int32 × ab_S) := ab_k (ab_si σ 0 0 18 ((σ.1 0 0 18) + 1)) fun σ1 => (rc4 σ1).bind fun q2 => (if t0 = 0 then fX10_sums_b73 rc0 rc1 rc2 rc3 rc4 rc5 kk5 (v1 - q2.1) q2.2 else fX10_sums_b73 rc0 rc1 rc2 rc3 rc4 rc5 kk5 (v1 + q2.1) q2.2)
def fX10_sums_b30 (rc0 : ab_S → Option (Int32 × ab_S)) (rc1 : ab_S → Option (Int32 × ab_S)) (rc2 : ab_S → Option (Int32 × ab_S)) (rc3 : ab_S → Option (Int32 × ab_S)) (rc4 : ab_S → Option (Int32 × ab_S)) (rc5 : ab_S → Option (Int32 × ab_S)) (kk5 : Int32 → ab_S → Option (Int32 × ab_S)) (v1 : Int32) (σ : ab_S) : Option (Int32 × ab_S) := (fX10_byteAt σ).bind fun q1 => (if q1 = 43 then fX10_sums_b44 rc0 rc1 rc2 rc3 rc4 rc5 kk5 v1 1 σ else fX10_sums_b44 rc0 rc1 rc2 rc3 rc4 rc5 kk5 v1 0 σ)
def fX10_sums_b5_o (rc0 : ab_S → Option (Int32 × ab_S)) (rc1 : ab_S → Option (Int32 × ab_S)) (rc2 : ab_S → Option (Int32 × ab_S)) (rc3 : ab_S → Option (Int32 × ab_S)) (rc4 : ab_S → Option (Int32 × ab_S)) (rc5 : ab_S → Option (Int32 × ab_S)) (kk5 : Int32 → ab_S → Option (Int32 × ab_S)) (v1 : Int32) (σ : ab_S) : Option (Int32 × ab_S) := (if 0 ≤ (σ.1 0 0 20) then fX10_sums_b77 rc0 rc1 rc2 rc3 rc4 rc5 v1 σ else (fX10_byteAt σ).bind fun q2 => (if q2 = 43 then fX10_sums_b30 rc0 rc1 rc2 rc3 rc4 rc5 kk5 v1 σ else (fX10_byteAt σ).bind fun q4 => (if q4 = 45 then fX10_sums_b30 rc0 rc1 rc2 rc3 rc4 rc5 kk5 v1 σ else fX10_sums_b77 rc0 rc1 rc2 rc3 rc4 rc5 v1 σ)))
def fX10_sums_b5 (rc0 : ab_S → Option (Int32 × ab_S)) (rc1 : ab_S → Option (Int32 × ab_S)) (rc2 : ab_S → Option (Int32 × ab_S)) (rc3 : ab_S → Option (Int32 × ab_S)) (rc4 : ab_S → Option (Int32 × ab_S)) (rc5 : ab_S → Option (Int32 × ab_S)) : Nat → Int32 → ab_S → Option (Int32 × ab_S)
  | 0 => fun _ _ => none
  | n + 1 => fX10_sums_b5_o rc0 rc1 rc2 rc3 rc4 rc5 (fX10_sums_b5 rc0 rc1 rc2 rc3 rc4 rc5 n)
def fX10_sums_o (rc0 : ab_S → Option (Int32 × ab_S)) (rc1 : ab_S → Option (Int32 × ab_S)) (rc2 : ab_S → Option (Int32 × ab_S)) (rc3 : ab_S → Option (Int32 × ab_S)) (rc4 : ab_S → Option (Int32 × ab_S)) (rc5 : ab_S → Option (Int32 × ab_S)) (σ : ab_S) : Option (Int32 × ab_S) := (rc4 σ).bind fun q1 => fX10_sums_b5 rc0 rc1 rc2 rc3 rc4 rc5 ab_N q1.1 q1.2
def fzX10_both : Nat → (ab_S → Option (Int32 × ab_S)) × (ab_S → Option (Int32 × ab_S)) × (ab_S → Option (Int32 × ab_S)) × (ab_S → Option (Int32 × ab_S)) × (ab_S → Option (Int32 × ab_S)) × (ab_S → Option (Int32 × ab_S))
  | 0 => (fun _ => none, fun _ => none, fun _ => none, fun _ => none, fun _ => none, fun _ => none)
  | n + 1 => (fX10_both_o ((fzX10_both n).1) ((fzX10_both n).2.1) ((fzX10_both n).2.2.1) ((fzX10_both n).2.2.2.1) ((fzX10_both n).2.2.2.2.1) ((fzX10_both n).2.2.2.2.2), fX10_compared_o ((fzX10_both n).1) ((fzX10_both n).2.1) ((fzX10_both n).2.2.1) ((fzX10_both n).2.2.2.1) ((fzX10_both n).2.2.2.2.1) ((fzX10_both n).2.2.2.2.2), fX10_either_o ((fzX10_both n).1) ((fzX10_both n).2.1) ((fzX10_both n).2.2.1) ((fzX10_both n).2.2.2.1) ((fzX10_both n).2.2.2.2.1) ((fzX10_both n).2.2.2.2.2), fX10_one_o ((fzX10_both n).1) ((fzX10_both n).2.1) ((fzX10_both n).2.2.1) ((fzX10_both n).2.2.2.1) ((fzX10_both n).2.2.2.2.1) ((fzX10_both n).2.2.2.2.2), fX10_product_o ((fzX10_both n).1) ((fzX10_both n).2.1) ((fzX10_both n).2.2.1) ((fzX10_both n).2.2.2.1) ((fzX10_both n).2.2.2.2.1) ((fzX10_both n).2.2.2.2.2), fX10_sums_o ((fzX10_both n).1) ((fzX10_both n).2.1) ((fzX10_both n).2.2.1) ((fzX10_both n).2.2.2.1) ((fzX10_both n).2.2.2.2.1) ((fzX10_both n).2.2.2.2.2))
def fX10_both (n : Nat) (σ : ab_S) : Option (Int32 × ab_S) := (fzX10_both n).1 σ
def fX10_compared (n : Nat) (σ : ab_S) : Option (Int32 × ab_S) := (fzX10_both n).2.1 σ
def fX10_either (n : Nat) (σ : ab_S) : Option (Int32 × ab_S) := (fzX10_both n).2.2.1 σ
def fX10_one (n : Nat) (σ : ab_S) : Option (Int32 × ab_S) := (fzX10_both n).2.2.2.1 σ
def fX10_product (n : Nat) (σ : ab_S) : Option (Int32 × ab_S) := (fzX10_both n).2.2.2.2.1 σ
def fX10_sums (n : Nat) (σ : ab_S) : Option (Int32 × ab_S) := (fzX10_both n).2.2.2.2.2 σ
section
variable {p : Program} {l : Launch} {e : Env} {s : State} {m : MethodId} {args : Array Value} {below : List Frame} {meth : Method} {c : Code} {D : va_G} {cA : Nat → ClassId} {ad : Nat → Nat → Nat}
set_option maxRecDepth 100000 in
set_option maxHeartbeats 4000000 in
theorem gX10_both_b32 {n : Nat} {R : (Int32 × ab_S)} {rc0 : ab_S → Option (Int32 × ab_S)} {rc1 : ab_S → Option (Int32 × ab_S)} {rc2 : ab_S → Option (Int32 × ab_S)} {rc3 : ab_S → Option (Int32 × ab_S)} {rc4 : ab_S → Option (Int32 × ab_S)} {rc5 : ab_S → Option (Int32 × ab_S)} (C : ab_C yM p s m args meth c D cA ad cX10_both 3 RX10 (some .int)) (hrec : (∀ (σ : ab_S), ∀ (R : (Int32 × ab_S)), rc0 σ = some R → ab_M l yM yX10_both cX10_both 3 (some .int) (2 + n) [.inr (.inr (0, 0))] σ (some (.inl R.1)) R.2) ∧ (∀ (σ : ab_S), ∀ (R : (Int32 × ab_S)), rc1 σ = some R → ab_M l yM yX10_compared cX10_compared 4 (some .int) (2 + n) [.inr (.inr (0, 0))] σ (some (.inl R.1)) R.2) ∧ (∀ (σ : ab_S), ∀ (R : (Int32 × ab_S)), rc2 σ = some R → ab_M l yM yX10_either cX10_either 3 (some .int) (2 + n) [.inr (.inr (0, 0))] σ (some (.inl R.1)) R.2) ∧ (∀ (σ : ab_S), ∀ (R : (Int32 × ab_S)), rc3 σ = some R → ab_M l yM yX10_one cX10_one 5 (some .int) (2 + n) [.inr (.inr (0, 0))] σ (some (.inl R.1)) R.2) ∧ (∀ (σ : ab_S), ∀ (R : (Int32 × ab_S)), rc4 σ = some R → ab_M l yM yX10_product cX10_product 4 (some .int) (2 + n) [.inr (.inr (0, 0))] σ (some (.inl R.1)) R.2) ∧ (∀ (σ : ab_S), ∀ (R : (Int32 × ab_S)), rc5 σ = some R → ab_M l yM yX10_sums cX10_sums 4 (some .int) (2 + n) [.inr (.inr (0, 0))] σ (some (.inl R.1)) R.2)) {kk5 : Int32 → ab_S → Option (Int32 × ab_S)} (hk5 : ∀ (v1 : Int32) (σ : ab_S), kk5 v1 σ = some R → ab_G yM p l e s m args below meth c D cA ad 3 (2 + n + 1) (some (.inl R.1)) R.2 5 [some (.inr (.inr (0, 0))), some (.inl v1), none] [] σ) (t0 : Int32) (σ : ab_S) (h : fX10_both_b32 rc0 rc1 rc2 rc3 rc4 rc5 kk5 t0 σ = some R) : ab_G yM p l e s m args below meth c D cA ad 3 (2 + n + 1) (some (.inl R.1)) R.2 32 [some (.inr (.inr (0, 0))), none, none] [.inl t0] σ := by
  refine ab_istore_n C dX10_both_32 (Nat.le_of_ble_eq_true rfl) ?_
  refine ab_goto C (tgt := 5) dX10_both_33 (by decide) ?_
  refine ab_weak (lv' := [some (.inr (.inr (0, 0))), some (.inl t0), none]) ⟨.inr rfl, ⟨.inr rfl, ⟨.inl rfl, trivial⟩⟩⟩ ?_
  exact hk5 _ _ h
set_option maxRecDepth 100000 in
set_option maxHeartbeats 4000000 in
theorem gX10_both_b31 {n : Nat} {R : (Int32 × ab_S)} {rc0 : ab_S → Option (Int32 × ab_S)} {rc1 : ab_S → Option (Int32 × ab_S)} {rc2 : ab_S → Option (Int32 × ab_S)} {rc3 : ab_S → Option (Int32 × ab_S)} {rc4 : ab_S → Option (Int32 × ab_S)} {rc5 : ab_S → Option (Int32 × ab_S)} (C : ab_C yM p s m args meth c D cA ad cX10_both 3 RX10 (some .int)) (hrec : (∀ (σ : ab_S), ∀ (R : (Int32 × ab_S)), rc0 σ = some R → ab_M l yM yX10_both cX10_both 3 (some .int) (2 + n) [.inr (.inr (0, 0))] σ (some (.inl R.1)) R.2) ∧ (∀ (σ : ab_S), ∀ (R : (Int32 × ab_S)), rc1 σ = some R → ab_M l yM yX10_compared cX10_compared 4 (some .int) (2 + n) [.inr (.inr (0, 0))] σ (some (.inl R.1)) R.2) ∧ (∀ (σ : ab_S), ∀ (R : (Int32 × ab_S)), rc2 σ = some R → ab_M l yM yX10_either cX10_either 3 (some .int) (2 + n) [.inr (.inr (0, 0))] σ (some (.inl R.1)) R.2) ∧ (∀ (σ : ab_S), ∀ (R : (Int32 × ab_S)), rc3 σ = some R → ab_M l yM yX10_one cX10_one 5 (some .int) (2 + n) [.inr (.inr (0, 0))] σ (some (.inl R.1)) R.2) ∧ (∀ (σ : ab_S), ∀ (R : (Int32 × ab_S)), rc4 σ = some R → ab_M l yM yX10_product cX10_product 4 (some .int) (2 + n) [.inr (.inr (0, 0))] σ (some (.inl R.1)) R.2) ∧ (∀ (σ : ab_S), ∀ (R : (Int32 × ab_S)), rc5 σ = some R → ab_M l yM yX10_sums cX10_sums 4 (some .int) (2 + n) [.inr (.inr (0, 0))] σ (some (.inl R.1)) R.2)) {kk5 : Int32 → ab_S → Option (Int32 × ab_S)} (hk5 : ∀ (v1 : Int32) (σ : ab_S), kk5 v1 σ = some R → ab_G yM p l e s m args below meth c D cA ad 3 (2 + n + 1) (some (.inl R.1)) R.2 5 [some (.inr (.inr (0, 0))), some (.inl v1), none] [] σ) (σ : ab_S) (h : fX10_both_b31 rc0 rc1 rc2 rc3 rc4 rc5 kk5 σ = some R) : ab_G yM p l e s m args below meth c D cA ad 3 (2 + n + 1) (some (.inl R.1)) R.2 31 [some (.inr (.inr (0, 0))), none, none] [] σ := by
  refine ab_iconst C dX10_both_31 (v := 0) rfl ?_
  refine ab_weak (lv' := [some (.inr (.inr (0, 0))), none, none]) ⟨.inr rfl, ⟨.inl rfl, ⟨.inl rfl, trivial⟩⟩⟩ ?_
  exact gX10_both_b32 C hrec hk5 _ _ h
set_option maxRecDepth 100000 in
set_option maxHeartbeats 4000000 in
theorem gX10_both_b5_o {n : Nat} {R : (Int32 × ab_S)} {rc0 : ab_S → Option (Int32 × ab_S)} {rc1 : ab_S → Option (Int32 × ab_S)} {rc2 : ab_S → Option (Int32 × ab_S)} {rc3 : ab_S → Option (Int32 × ab_S)} {rc4 : ab_S → Option (Int32 × ab_S)} {rc5 : ab_S → Option (Int32 × ab_S)} (C : ab_C yM p s m args meth c D cA ad cX10_both 3 RX10 (some .int)) (hrec : (∀ (σ : ab_S), ∀ (R : (Int32 × ab_S)), rc0 σ = some R → ab_M l yM yX10_both cX10_both 3 (some .int) (2 + n) [.inr (.inr (0, 0))] σ (some (.inl R.1)) R.2) ∧ (∀ (σ : ab_S), ∀ (R : (Int32 × ab_S)), rc1 σ = some R → ab_M l yM yX10_compared cX10_compared 4 (some .int) (2 + n) [.inr (.inr (0, 0))] σ (some (.inl R.1)) R.2) ∧ (∀ (σ : ab_S), ∀ (R : (Int32 × ab_S)), rc2 σ = some R → ab_M l yM yX10_either cX10_either 3 (some .int) (2 + n) [.inr (.inr (0, 0))] σ (some (.inl R.1)) R.2) ∧ (∀ (σ : ab_S), ∀ (R : (Int32 × ab_S)), rc3 σ = some R → ab_M l yM yX10_one cX10_one 5 (some .int) (2 + n) [.inr (.inr (0, 0))] σ (some (.inl R.1)) R.2) ∧ (∀ (σ : ab_S), ∀ (R : (Int32 × ab_S)), rc4 σ = some R → ab_M l yM yX10_product cX10_product 4 (some .int) (2 + n) [.inr (.inr (0, 0))] σ (some (.inl R.1)) R.2) ∧ (∀ (σ : ab_S), ∀ (R : (Int32 × ab_S)), rc5 σ = some R → ab_M l yM yX10_sums cX10_sums 4 (some .int) (2 + n) [.inr (.inr (0, 0))] σ (some (.inl R.1)) R.2)) {kk5 : Int32 → ab_S → Option (Int32 × ab_S)} (hk5 : ∀ (v1 : Int32) (σ : ab_S), kk5 v1 σ = some R → ab_G yM p l e s m args below meth c D cA ad 3 (2 + n + 1) (some (.inl R.1)) R.2 5 [some (.inr (.inr (0, 0))), some (.inl v1), none] [] σ) (v1 : Int32) (σ : ab_S) (h : fX10_both_b5_o rc0 rc1 rc2 rc3 rc4 rc5 kk5 v1 σ = some R) : ab_G yM p l e s m args below meth c D cA ad 3 (2 + n + 1) (some (.inl R.1)) R.2 5 [some (.inr (.inr (0, 0))), some (.inl v1), none] [] σ := by
  refine ab_aload_n C dX10_both_5 rfl ?_
  refine ab_bipush C dX10_both_6 (v := 38) rfl ?_
  obtain ⟨q1, hq1, h⟩ := ab_bind h
  refine ab_inv1 C dX10_both_8 mlX10_172 yvX10_takes rkM_0 ⟨_, _, rfl⟩ mmM_0 (tX10_takes l _ _ hq1) (by omega) (Nat.le_of_ble_eq_true rfl) rfl (Nat.le_of_ble_eq_true rfl) ?_
  refine ab_if_eq C (tgt := 36) dX10_both_11 (by decide) (fun hc2 => ?_) (fun hc2 => ?_)
  · replace h := ab_pos hc2 h
    refine ab_iload_n C dX10_both_36 rfl ?_
    obtain rfl := Option.some.inj h
    exact ab_iret C dX10_both_37
  · replace h := ab_neg hc2 h
    refine ab_aload_n C dX10_both_14 rfl ?_
    obtain ⟨q3, hq3, h⟩ := ab_bind h
    refine ab_inv1 C dX10_both_15 mlX10_175 yvX10_compared rkM_0 ⟨_, _, rfl⟩ mmM_0 (hrec.2.1 _ _ hq3) (by omega) (Nat.le_of_ble_eq_true rfl) rfl (Nat.le_of_ble_eq_true rfl) ?_
    refine ab_istore_n C dX10_both_18 (Nat.le_of_ble_eq_true rfl) ?_
    refine ab_iload_n C dX10_both_19 rfl ?_
    refine ab_if_eq C (tgt := 31) dX10_both_20 (by decide) (fun hc4 => ?_) (fun hc4 => ?_)
    · replace h := ab_pos hc4 h
      refine ab_weak (lv' := [some (.inr (.inr (0, 0))), none, none]) ⟨.inr rfl, ⟨.inl rfl, ⟨.inl rfl, trivial⟩⟩⟩ ?_
      exact gX10_both_b31 C hrec hk5 _ h
    · replace h := ab_neg hc4 h
      refine ab_iload_n C dX10_both_23 rfl ?_
      refine ab_if_eq C (tgt := 31) dX10_both_24 (by decide) (fun hc5 => ?_) (fun hc5 => ?_)
      · replace h := ab_pos hc5 h
        refine ab_weak (lv' := [some (.inr (.inr (0, 0))), none, none]) ⟨.inr rfl, ⟨.inl rfl, ⟨.inl rfl, trivial⟩⟩⟩ ?_
        exact gX10_both_b31 C hrec hk5 _ h
      · replace h := ab_neg hc5 h
        refine ab_iconst C dX10_both_27 (v := 1) rfl ?_
        refine ab_goto C (tgt := 32) dX10_both_28 (by decide) ?_
        refine ab_weak (lv' := [some (.inr (.inr (0, 0))), none, none]) ⟨.inr rfl, ⟨.inl rfl, ⟨.inl rfl, trivial⟩⟩⟩ ?_
        exact gX10_both_b32 C hrec hk5 _ _ h
theorem gX10_both_b5 {n : Nat} {R : (Int32 × ab_S)} {rc0 : ab_S → Option (Int32 × ab_S)} {rc1 : ab_S → Option (Int32 × ab_S)} {rc2 : ab_S → Option (Int32 × ab_S)} {rc3 : ab_S → Option (Int32 × ab_S)} {rc4 : ab_S → Option (Int32 × ab_S)} {rc5 : ab_S → Option (Int32 × ab_S)} (C : ab_C yM p s m args meth c D cA ad cX10_both 3 RX10 (some .int)) (hrec : (∀ (σ : ab_S), ∀ (R : (Int32 × ab_S)), rc0 σ = some R → ab_M l yM yX10_both cX10_both 3 (some .int) (2 + n) [.inr (.inr (0, 0))] σ (some (.inl R.1)) R.2) ∧ (∀ (σ : ab_S), ∀ (R : (Int32 × ab_S)), rc1 σ = some R → ab_M l yM yX10_compared cX10_compared 4 (some .int) (2 + n) [.inr (.inr (0, 0))] σ (some (.inl R.1)) R.2) ∧ (∀ (σ : ab_S), ∀ (R : (Int32 × ab_S)), rc2 σ = some R → ab_M l yM yX10_either cX10_either 3 (some .int) (2 + n) [.inr (.inr (0, 0))] σ (some (.inl R.1)) R.2) ∧ (∀ (σ : ab_S), ∀ (R : (Int32 × ab_S)), rc3 σ = some R → ab_M l yM yX10_one cX10_one 5 (some .int) (2 + n) [.inr (.inr (0, 0))] σ (some (.inl R.1)) R.2) ∧ (∀ (σ : ab_S), ∀ (R : (Int32 × ab_S)), rc4 σ = some R → ab_M l yM yX10_product cX10_product 4 (some .int) (2 + n) [.inr (.inr (0, 0))] σ (some (.inl R.1)) R.2) ∧ (∀ (σ : ab_S), ∀ (R : (Int32 × ab_S)), rc5 σ = some R → ab_M l yM yX10_sums cX10_sums 4 (some .int) (2 + n) [.inr (.inr (0, 0))] σ (some (.inl R.1)) R.2)) : ∀ (j : Nat) (v1 : Int32) (σ : ab_S), fX10_both_b5 rc0 rc1 rc2 rc3 rc4 rc5 j v1 σ = some R → ab_G yM p l e s m args below meth c D cA ad 3 (2 + n + 1) (some (.inl R.1)) R.2 5 [some (.inr (.inr (0, 0))), some (.inl v1), none] [] σ := by
  intro j
  induction j with
  | zero => intro v1 σ  h; cases h
  | succ j ih => intro v1 σ  h; exact gX10_both_b5_o C hrec ih _ _ h
set_option maxRecDepth 100000 in
set_option maxHeartbeats 4000000 in
theorem tX10_both_o (l : Launch) {n : Nat} {rc0 : ab_S → Option (Int32 × ab_S)} {rc1 : ab_S → Option (Int32 × ab_S)} {rc2 : ab_S → Option (Int32 × ab_S)} {rc3 : ab_S → Option (Int32 × ab_S)} {rc4 : ab_S → Option (Int32 × ab_S)} {rc5 : ab_S → Option (Int32 × ab_S)} (hrec : (∀ (σ : ab_S), ∀ (R : (Int32 × ab_S)), rc0 σ = some R → ab_M l yM yX10_both cX10_both 3 (some .int) (2 + n) [.inr (.inr (0, 0))] σ (some (.inl R.1)) R.2) ∧ (∀ (σ : ab_S), ∀ (R : (Int32 × ab_S)), rc1 σ = some R → ab_M l yM yX10_compared cX10_compared 4 (some .int) (2 + n) [.inr (.inr (0, 0))] σ (some (.inl R.1)) R.2) ∧ (∀ (σ : ab_S), ∀ (R : (Int32 × ab_S)), rc2 σ = some R → ab_M l yM yX10_either cX10_either 3 (some .int) (2 + n) [.inr (.inr (0, 0))] σ (some (.inl R.1)) R.2) ∧ (∀ (σ : ab_S), ∀ (R : (Int32 × ab_S)), rc3 σ = some R → ab_M l yM yX10_one cX10_one 5 (some .int) (2 + n) [.inr (.inr (0, 0))] σ (some (.inl R.1)) R.2) ∧ (∀ (σ : ab_S), ∀ (R : (Int32 × ab_S)), rc4 σ = some R → ab_M l yM yX10_product cX10_product 4 (some .int) (2 + n) [.inr (.inr (0, 0))] σ (some (.inl R.1)) R.2) ∧ (∀ (σ : ab_S), ∀ (R : (Int32 × ab_S)), rc5 σ = some R → ab_M l yM yX10_sums cX10_sums 4 (some .int) (2 + n) [.inr (.inr (0, 0))] σ (some (.inl R.1)) R.2)) (σ : ab_S) {R : (Int32 × ab_S)} (h : fX10_both_o rc0 rc1 rc2 rc3 rc4 rc5 σ = some R) : ab_M l yM yX10_both cX10_both 3 (some .int) (2 + n + 1) [.inr (.inr (0, 0))] σ (some (.inl R.1)) R.2 := by
  refine ab_M_intro ndM (by decide) (Nat.le_of_ble_eq_true rfl) ?_
  intro p e s m args below meth c D cA ad C
  have C : ab_C yM p s m args meth c D cA ad cX10_both 3 RX10 (some .int) := C
  refine ab_weak (lv' := [some (.inr (.inr (0, 0))), none, none]) ⟨.inr rfl, ⟨.inl rfl, ⟨.inl rfl, trivial⟩⟩⟩ ?_
  refine ab_aload_n C dX10_both_0 rfl ?_
  obtain ⟨q1, hq1, h⟩ := ab_bind h
  refine ab_inv1 C dX10_both_1 mlX10_175 yvX10_compared rkM_0 ⟨_, _, rfl⟩ mmM_0 (hrec.2.1 _ _ hq1) (by omega) (Nat.le_of_ble_eq_true rfl) rfl (Nat.le_of_ble_eq_true rfl) ?_
  refine ab_istore_n C dX10_both_4 (Nat.le_of_ble_eq_true rfl) ?_
  refine ab_weak (lv' := [some (.inr (.inr (0, 0))), some (.inl q1.1), none]) ⟨.inr rfl, ⟨.inr rfl, ⟨.inl rfl, trivial⟩⟩⟩ ?_
  exact gX10_both_b5 C hrec ab_N _ _ h
end
section
variable {p : Program} {l : Launch} {e : Env} {s : State} {m : MethodId} {args : Array Value} {below : List Frame} {meth : Method} {c : Code} {D : va_G} {cA : Nat → ClassId} {ad : Nat → Nat → Nat}
set_option maxRecDepth 100000 in
set_option maxHeartbeats 4000000 in
theorem gX10_compared_b35 {n : Nat} {R : (Int32 × ab_S)} {rc0 : ab_S → Option (Int32 × ab_S)} {rc1 : ab_S → Option (Int32 × ab_S)} {rc2 : ab_S → Option (Int32 × ab_S)} {rc3 : ab_S → Option (Int32 × ab_S)} {rc4 : ab_S → Option (Int32 × ab_S)} {rc5 : ab_S → Option (Int32 × ab_S)} (C : ab_C yM p s m args meth c D cA ad cX10_compared 4 RX10 (some .int)) (hrec : (∀ (σ : ab_S), ∀ (R : (Int32 × ab_S)), rc0 σ = some R → ab_M l yM yX10_both cX10_both 3 (some .int) (2 + n) [.inr (.inr (0, 0))] σ (some (.inl R.1)) R.2) ∧ (∀ (σ : ab_S), ∀ (R : (Int32 × ab_S)), rc1 σ = some R → ab_M l yM yX10_compared cX10_compared 4 (some .int) (2 + n) [.inr (.inr (0, 0))] σ (some (.inl R.1)) R.2) ∧ (∀ (σ : ab_S), ∀ (R : (Int32 × ab_S)), rc2 σ = some R → ab_M l yM yX10_either cX10_either 3 (some .int) (2 + n) [.inr (.inr (0, 0))] σ (some (.inl R.1)) R.2) ∧ (∀ (σ : ab_S), ∀ (R : (Int32 × ab_S)), rc3 σ = some R → ab_M l yM yX10_one cX10_one 5 (some .int) (2 + n) [.inr (.inr (0, 0))] σ (some (.inl R.1)) R.2) ∧ (∀ (σ : ab_S), ∀ (R : (Int32 × ab_S)), rc4 σ = some R → ab_M l yM yX10_product cX10_product 4 (some .int) (2 + n) [.inr (.inr (0, 0))] σ (some (.inl R.1)) R.2) ∧ (∀ (σ : ab_S), ∀ (R : (Int32 × ab_S)), rc5 σ = some R → ab_M l yM yX10_sums cX10_sums 4 (some .int) (2 + n) [.inr (.inr (0, 0))] σ (some (.inl R.1)) R.2)) (v1 : Int32) (σ : ab_S) (h : fX10_compared_b35 rc0 rc1 rc2 rc3 rc4 rc5 v1 σ = some R) : ab_G yM p l e s m args below meth c D cA ad 4 (2 + n + 1) (some (.inl R.1)) R.2 35 [none, some (.inl v1), none, none] [] σ := by
  refine ab_iload_n C dX10_compared_35 rfl ?_
  obtain rfl := Option.some.inj h
  exact ab_iret C dX10_compared_36
set_option maxRecDepth 100000 in
set_option maxHeartbeats 4000000 in
theorem gX10_compared_b90 {n : Nat} {R : (Int32 × ab_S)} {rc0 : ab_S → Option (Int32 × ab_S)} {rc1 : ab_S → Option (Int32 × ab_S)} {rc2 : ab_S → Option (Int32 × ab_S)} {rc3 : ab_S → Option (Int32 × ab_S)} {rc4 : ab_S → Option (Int32 × ab_S)} {rc5 : ab_S → Option (Int32 × ab_S)} (C : ab_C yM p s m args meth c D cA ad cX10_compared 4 RX10 (some .int)) (hrec : (∀ (σ : ab_S), ∀ (R : (Int32 × ab_S)), rc0 σ = some R → ab_M l yM yX10_both cX10_both 3 (some .int) (2 + n) [.inr (.inr (0, 0))] σ (some (.inl R.1)) R.2) ∧ (∀ (σ : ab_S), ∀ (R : (Int32 × ab_S)), rc1 σ = some R → ab_M l yM yX10_compared cX10_compared 4 (some .int) (2 + n) [.inr (.inr (0, 0))] σ (some (.inl R.1)) R.2) ∧ (∀ (σ : ab_S), ∀ (R : (Int32 × ab_S)), rc2 σ = some R → ab_M l yM yX10_either cX10_either 3 (some .int) (2 + n) [.inr (.inr (0, 0))] σ (some (.inl R.1)) R.2) ∧ (∀ (σ : ab_S), ∀ (R : (Int32 × ab_S)), rc3 σ = some R → ab_M l yM yX10_one cX10_one 5 (some .int) (2 + n) [.inr (.inr (0, 0))] σ (some (.inl R.1)) R.2) ∧ (∀ (σ : ab_S), ∀ (R : (Int32 × ab_S)), rc4 σ = some R → ab_M l yM yX10_product cX10_product 4 (some .int) (2 + n) [.inr (.inr (0, 0))] σ (some (.inl R.1)) R.2) ∧ (∀ (σ : ab_S), ∀ (R : (Int32 × ab_S)), rc5 σ = some R → ab_M l yM yX10_sums cX10_sums 4 (some .int) (2 + n) [.inr (.inr (0, 0))] σ (some (.inl R.1)) R.2)) (t0 : Int32) (σ : ab_S) (h : fX10_compared_b90 rc0 rc1 rc2 rc3 rc4 rc5 t0 σ = some R) : ab_G yM p l e s m args below meth c D cA ad 4 (2 + n + 1) (some (.inl R.1)) R.2 90 [none, none, none, none] [.inl t0] σ := by
  obtain rfl := Option.some.inj h
  exact ab_iret C dX10_compared_90
set_option maxRecDepth 100000 in
set_option maxHeartbeats 4000000 in
theorem gX10_compared_b89 {n : Nat} {R : (Int32 × ab_S)} {rc0 : ab_S → Option (Int32 × ab_S)} {rc1 : ab_S → Option (Int32 × ab_S)} {rc2 : ab_S → Option (Int32 × ab_S)} {rc3 : ab_S → Option (Int32 × ab_S)} {rc4 : ab_S → Option (Int32 × ab_S)} {rc5 : ab_S → Option (Int32 × ab_S)} (C : ab_C yM p s m args meth c D cA ad cX10_compared 4 RX10 (some .int)) (hrec : (∀ (σ : ab_S), ∀ (R : (Int32 × ab_S)), rc0 σ = some R → ab_M l yM yX10_both cX10_both 3 (some .int) (2 + n) [.inr (.inr (0, 0))] σ (some (.inl R.1)) R.2) ∧ (∀ (σ : ab_S), ∀ (R : (Int32 × ab_S)), rc1 σ = some R → ab_M l yM yX10_compared cX10_compared 4 (some .int) (2 + n) [.inr (.inr (0, 0))] σ (some (.inl R.1)) R.2) ∧ (∀ (σ : ab_S), ∀ (R : (Int32 × ab_S)), rc2 σ = some R → ab_M l yM yX10_either cX10_either 3 (some .int) (2 + n) [.inr (.inr (0, 0))] σ (some (.inl R.1)) R.2) ∧ (∀ (σ : ab_S), ∀ (R : (Int32 × ab_S)), rc3 σ = some R → ab_M l yM yX10_one cX10_one 5 (some .int) (2 + n) [.inr (.inr (0, 0))] σ (some (.inl R.1)) R.2) ∧ (∀ (σ : ab_S), ∀ (R : (Int32 × ab_S)), rc4 σ = some R → ab_M l yM yX10_product cX10_product 4 (some .int) (2 + n) [.inr (.inr (0, 0))] σ (some (.inl R.1)) R.2) ∧ (∀ (σ : ab_S), ∀ (R : (Int32 × ab_S)), rc5 σ = some R → ab_M l yM yX10_sums cX10_sums 4 (some .int) (2 + n) [.inr (.inr (0, 0))] σ (some (.inl R.1)) R.2)) (σ : ab_S) (h : fX10_compared_b89 rc0 rc1 rc2 rc3 rc4 rc5 σ = some R) : ab_G yM p l e s m args below meth c D cA ad 4 (2 + n + 1) (some (.inl R.1)) R.2 89 [none, none, none, none] [] σ := by
  refine ab_iconst C dX10_compared_89 (v := 0) rfl ?_
  refine ab_weak (lv' := [none, none, none, none]) ⟨.inl rfl, ⟨.inl rfl, ⟨.inl rfl, ⟨.inl rfl, trivial⟩⟩⟩⟩ ?_
  exact gX10_compared_b90 C hrec _ _ h
set_option maxRecDepth 100000 in
set_option maxHeartbeats 4000000 in
theorem gX10_compared_b85 {n : Nat} {R : (Int32 × ab_S)} {rc0 : ab_S → Option (Int32 × ab_S)} {rc1 : ab_S → Option (Int32 × ab_S)} {rc2 : ab_S → Option (Int32 × ab_S)} {rc3 : ab_S → Option (Int32 × ab_S)} {rc4 : ab_S → Option (Int32 × ab_S)} {rc5 : ab_S → Option (Int32 × ab_S)} (C : ab_C yM p s m args meth c D cA ad cX10_compared 4 RX10 (some .int)) (hrec : (∀ (σ : ab_S), ∀ (R : (Int32 × ab_S)), rc0 σ = some R → ab_M l yM yX10_both cX10_both 3 (some .int) (2 + n) [.inr (.inr (0, 0))] σ (some (.inl R.1)) R.2) ∧ (∀ (σ : ab_S), ∀ (R : (Int32 × ab_S)), rc1 σ = some R → ab_M l yM yX10_compared cX10_compared 4 (some .int) (2 + n) [.inr (.inr (0, 0))] σ (some (.inl R.1)) R.2) ∧ (∀ (σ : ab_S), ∀ (R : (Int32 × ab_S)), rc2 σ = some R → ab_M l yM yX10_either cX10_either 3 (some .int) (2 + n) [.inr (.inr (0, 0))] σ (some (.inl R.1)) R.2) ∧ (∀ (σ : ab_S), ∀ (R : (Int32 × ab_S)), rc3 σ = some R → ab_M l yM yX10_one cX10_one 5 (some .int) (2 + n) [.inr (.inr (0, 0))] σ (some (.inl R.1)) R.2) ∧ (∀ (σ : ab_S), ∀ (R : (Int32 × ab_S)), rc4 σ = some R → ab_M l yM yX10_product cX10_product 4 (some .int) (2 + n) [.inr (.inr (0, 0))] σ (some (.inl R.1)) R.2) ∧ (∀ (σ : ab_S), ∀ (R : (Int32 × ab_S)), rc5 σ = some R → ab_M l yM yX10_sums cX10_sums 4 (some .int) (2 + n) [.inr (.inr (0, 0))] σ (some (.inl R.1)) R.2)) (σ : ab_S) (h : fX10_compared_b85 rc0 rc1 rc2 rc3 rc4 rc5 σ = some R) : ab_G yM p l e s m args below meth c D cA ad 4 (2 + n + 1) (some (.inl R.1)) R.2 85 [none, none, none, none] [] σ := by
  refine ab_iconst C dX10_compared_85 (v := 1) rfl ?_
  refine ab_goto C (tgt := 90) dX10_compared_86 (by decide) ?_
  refine ab_weak (lv' := [none, none, none, none]) ⟨.inl rfl, ⟨.inl rfl, ⟨.inl rfl, ⟨.inl rfl, trivial⟩⟩⟩⟩ ?_
  exact gX10_compared_b90 C hrec _ _ h
set_option maxRecDepth 100000 in
set_option maxHeartbeats 4000000 in
theorem gX10_compared_b37 {n : Nat} {R : (Int32 × ab_S)} {rc0 : ab_S → Option (Int32 × ab_S)} {rc1 : ab_S → Option (Int32 × ab_S)} {rc2 : ab_S → Option (Int32 × ab_S)} {rc3 : ab_S → Option (Int32 × ab_S)} {rc4 : ab_S → Option (Int32 × ab_S)} {rc5 : ab_S → Option (Int32 × ab_S)} (C : ab_C yM p s m args meth c D cA ad cX10_compared 4 RX10 (some .int)) (hrec : (∀ (σ : ab_S), ∀ (R : (Int32 × ab_S)), rc0 σ = some R → ab_M l yM yX10_both cX10_both 3 (some .int) (2 + n) [.inr (.inr (0, 0))] σ (some (.inl R.1)) R.2) ∧ (∀ (σ : ab_S), ∀ (R : (Int32 × ab_S)), rc1 σ = some R → ab_M l yM yX10_compared cX10_compared 4 (some .int) (2 + n) [.inr (.inr (0, 0))] σ (some (.inl R.1)) R.2) ∧ (∀ (σ : ab_S), ∀ (R : (Int32 × ab_S)), rc2 σ = some R → ab_M l yM yX10_either cX10_either 3 (some .int) (2 + n) [.inr (.inr (0, 0))] σ (some (.inl R.1)) R.2) ∧ (∀ (σ : ab_S), ∀ (R : (Int32 × ab_S)), rc3 σ = some R → ab_M l yM yX10_one cX10_one 5 (some .int) (2 + n) [.inr (.inr (0, 0))] σ (some (.inl R.1)) R.2) ∧ (∀ (σ : ab_S), ∀ (R : (Int32 × ab_S)), rc4 σ = some R → ab_M l yM yX10_product cX10_product 4 (some .int) (2 + n) [.inr (.inr (0, 0))] σ (some (.inl R.1)) R.2) ∧ (∀ (σ : ab_S), ∀ (R : (Int32 × ab_S)), rc5 σ = some R → ab_M l yM yX10_sums cX10_sums 4 (some .int) (2 + n) [.inr (.inr (0, 0))] σ (some (.inl R.1)) R.2)) (v1 : Int32) (v2 : Int32) (σ : ab_S) (h : fX10_compared_b37 rc0 rc1 rc2 rc3 rc4 rc5 v1 v2 σ = some R) : ab_G yM p l e s m args below meth c D cA ad 4 (2 + n + 1) (some (.inl R.1)) R.2 37 [some (.inr (.inr (0, 0))), some (.inl v1), some (.inl v2), none] [] σ := by
  refine ab_aload_n C dX10_compared_37 rfl ?_
  refine ab_dup C dX10_compared_38 rfl ?_
  refine ab_getI C dX10_compared_39 flX10_154 rkM_0 rfl mmM_0 ?_
  refine ab_iconst C dX10_compared_42 (v := 1) rfl ?_
  refine ab_iadd C dX10_compared_43  ?_
  refine ab_putI C dX10_compared_44 fpX10_154 rkM_0 rfl mmM_0 rfl rfl ?_
  refine ab_nmS (fun σ1 eσ1 => ?_)
  replace h := ab_kh eσ1 h
  refine ab_aload_n C dX10_compared_47 rfl ?_
  obtain ⟨q2, hq2, h⟩ := ab_bind h
  refine ab_inv1 C dX10_compared_48 mlX10_178 yvX10_sums rkM_0 ⟨_, _, rfl⟩ mmM_0 (hrec.2.2.2.2.2 _ _ hq2) (by omega) (Nat.le_of_ble_eq_true rfl) rfl (Nat.le_of_ble_eq_true rfl) ?_
  refine ab_istore_n C dX10_compared_51 (Nat.le_of_ble_eq_true rfl) ?_
  refine ab_iload_n C dX10_compared_52 rfl ?_
  refine ab_bipush C dX10_compared_53 (v := 60) rfl ?_
  refine ab_icmp_ne C (tgt := 66) dX10_compared_55 (by decide) (fun hc3 => ?_) (fun hc3 => ?_)
  · replace h := ab_neg hc3 h
    refine ab_iload_n C dX10_compared_66 rfl ?_
    refine ab_bipush C dX10_compared_67 (v := 61) rfl ?_
    refine ab_icmp_ne C (tgt := 80) dX10_compared_69 (by decide) (fun hc4 => ?_) (fun hc4 => ?_)
    · replace h := ab_neg hc4 h
      refine ab_iload_n C dX10_compared_80 rfl ?_
      refine ab_iload_n C dX10_compared_81 rfl ?_
      refine ab_icmp_le C (tgt := 89) dX10_compared_82 (by decide) (fun hc5 => ?_) (fun hc5 => ?_)
      · replace h := ab_pos hc5 h
        refine ab_weak (lv' := [none, none, none, none]) ⟨.inl rfl, ⟨.inl rfl, ⟨.inl rfl, ⟨.inl rfl, trivial⟩⟩⟩⟩ ?_
        exact gX10_compared_b89 C hrec _ h
      · replace h := ab_neg hc5 h
        refine ab_weak (lv' := [none, none, none, none]) ⟨.inl rfl, ⟨.inl rfl, ⟨.inl rfl, ⟨.inl rfl, trivial⟩⟩⟩⟩ ?_
        exact gX10_compared_b85 C hrec _ h
    · replace h := ab_pos hc4 h
      refine ab_iload_n C dX10_compared_72 rfl ?_
      refine ab_iload_n C dX10_compared_73 rfl ?_
      refine ab_icmp_ne C (tgt := 89) dX10_compared_74 (by decide) (fun hc6 => ?_) (fun hc6 => ?_)
      · replace h := ab_neg hc6 h
        refine ab_weak (lv' := [none, none, none, none]) ⟨.inl rfl, ⟨.inl rfl, ⟨.inl rfl, ⟨.inl rfl, trivial⟩⟩⟩⟩ ?_
        exact gX10_compared_b89 C hrec _ h
      · replace h := ab_pos hc6 h
        refine ab_goto C (tgt := 85) dX10_compared_77 (by decide) ?_
        refine ab_weak (lv' := [none, none, none, none]) ⟨.inl rfl, ⟨.inl rfl, ⟨.inl rfl, ⟨.inl rfl, trivial⟩⟩⟩⟩ ?_
        exact gX10_compared_b85 C hrec _ h
  · replace h := ab_pos hc3 h
    refine ab_iload_n C dX10_compared_58 rfl ?_
    refine ab_iload_n C dX10_compared_59 rfl ?_
    refine ab_icmp_ge C (tgt := 89) dX10_compared_60 (by decide) (fun hc7 => ?_) (fun hc7 => ?_)
    · replace h := ab_pos hc7 h
      refine ab_weak (lv' := [none, none, none, none]) ⟨.inl rfl, ⟨.inl rfl, ⟨.inl rfl, ⟨.inl rfl, trivial⟩⟩⟩⟩ ?_
      exact gX10_compared_b89 C hrec _ h
    · replace h := ab_neg hc7 h
      refine ab_goto C (tgt := 85) dX10_compared_63 (by decide) ?_
      refine ab_weak (lv' := [none, none, none, none]) ⟨.inl rfl, ⟨.inl rfl, ⟨.inl rfl, ⟨.inl rfl, trivial⟩⟩⟩⟩ ?_
      exact gX10_compared_b85 C hrec _ h
set_option maxRecDepth 100000 in
set_option maxHeartbeats 4000000 in
theorem tX10_compared_o (l : Launch) {n : Nat} {rc0 : ab_S → Option (Int32 × ab_S)} {rc1 : ab_S → Option (Int32 × ab_S)} {rc2 : ab_S → Option (Int32 × ab_S)} {rc3 : ab_S → Option (Int32 × ab_S)} {rc4 : ab_S → Option (Int32 × ab_S)} {rc5 : ab_S → Option (Int32 × ab_S)} (hrec : (∀ (σ : ab_S), ∀ (R : (Int32 × ab_S)), rc0 σ = some R → ab_M l yM yX10_both cX10_both 3 (some .int) (2 + n) [.inr (.inr (0, 0))] σ (some (.inl R.1)) R.2) ∧ (∀ (σ : ab_S), ∀ (R : (Int32 × ab_S)), rc1 σ = some R → ab_M l yM yX10_compared cX10_compared 4 (some .int) (2 + n) [.inr (.inr (0, 0))] σ (some (.inl R.1)) R.2) ∧ (∀ (σ : ab_S), ∀ (R : (Int32 × ab_S)), rc2 σ = some R → ab_M l yM yX10_either cX10_either 3 (some .int) (2 + n) [.inr (.inr (0, 0))] σ (some (.inl R.1)) R.2) ∧ (∀ (σ : ab_S), ∀ (R : (Int32 × ab_S)), rc3 σ = some R → ab_M l yM yX10_one cX10_one 5 (some .int) (2 + n) [.inr (.inr (0, 0))] σ (some (.inl R.1)) R.2) ∧ (∀ (σ : ab_S), ∀ (R : (Int32 × ab_S)), rc4 σ = some R → ab_M l yM yX10_product cX10_product 4 (some .int) (2 + n) [.inr (.inr (0, 0))] σ (some (.inl R.1)) R.2) ∧ (∀ (σ : ab_S), ∀ (R : (Int32 × ab_S)), rc5 σ = some R → ab_M l yM yX10_sums cX10_sums 4 (some .int) (2 + n) [.inr (.inr (0, 0))] σ (some (.inl R.1)) R.2)) (σ : ab_S) {R : (Int32 × ab_S)} (h : fX10_compared_o rc0 rc1 rc2 rc3 rc4 rc5 σ = some R) : ab_M l yM yX10_compared cX10_compared 4 (some .int) (2 + n + 1) [.inr (.inr (0, 0))] σ (some (.inl R.1)) R.2 := by
  refine ab_M_intro ndM (by decide) (Nat.le_of_ble_eq_true rfl) ?_
  intro p e s m args below meth c D cA ad C
  have C : ab_C yM p s m args meth c D cA ad cX10_compared 4 RX10 (some .int) := C
  refine ab_weak (lv' := [some (.inr (.inr (0, 0))), none, none, none]) ⟨.inr rfl, ⟨.inl rfl, ⟨.inl rfl, ⟨.inl rfl, trivial⟩⟩⟩⟩ ?_
  refine ab_aload_n C dX10_compared_0 rfl ?_
  obtain ⟨q1, hq1, h⟩ := ab_bind h
  refine ab_inv1 C dX10_compared_1 mlX10_178 yvX10_sums rkM_0 ⟨_, _, rfl⟩ mmM_0 (hrec.2.2.2.2.2 _ _ hq1) (by omega) (Nat.le_of_ble_eq_true rfl) rfl (Nat.le_of_ble_eq_true rfl) ?_
  refine ab_istore_n C dX10_compared_4 (Nat.le_of_ble_eq_true rfl) ?_
  refine ab_aload_n C dX10_compared_5 rfl ?_
  obtain ⟨q2, hq2, h⟩ := ab_bind h
  refine ab_inv1 C dX10_compared_6 mlX10_166 yvX10_byteAt rkM_0 ⟨_, _, rfl⟩ mmM_0 (tX10_byteAt l _ hq2) (by omega) (Nat.le_of_ble_eq_true rfl) rfl (Nat.le_of_ble_eq_true rfl) ?_
  refine ab_istore_n C dX10_compared_9 (Nat.le_of_ble_eq_true rfl) ?_
  refine ab_aload_n C dX10_compared_10 rfl ?_
  refine ab_getI C dX10_compared_11 flX10_163 rkM_0 rfl mmM_0 ?_
  refine ab_if_ge C (tgt := 35) dX10_compared_14 (by decide) (fun hc3 => ?_) (fun hc3 => ?_)
  · replace h := ab_pos hc3 h
    refine ab_weak (lv' := [none, some (.inl q1.1), none, none]) ⟨.inl rfl, ⟨.inr rfl, ⟨.inl rfl, ⟨.inl rfl, trivial⟩⟩⟩⟩ ?_
    exact gX10_compared_b35 C hrec _ _ h
  · replace h := ab_neg hc3 h
    refine ab_iload_n C dX10_compared_17 rfl ?_
    refine ab_bipush C dX10_compared_18 (v := 60) rfl ?_
    refine ab_icmp_eq C (tgt := 37) dX10_compared_20 (by decide) (fun hc4 => ?_) (fun hc4 => ?_)
    · replace h := ab_pos hc4 h
      refine ab_weak (lv' := [some (.inr (.inr (0, 0))), some (.inl q1.1), some (.inl q2), none]) ⟨.inr rfl, ⟨.inr rfl, ⟨.inr rfl, ⟨.inl rfl, trivial⟩⟩⟩⟩ ?_
      exact gX10_compared_b37 C hrec _ _ _ h
    · replace h := ab_neg hc4 h
      refine ab_iload_n C dX10_compared_23 rfl ?_
      refine ab_bipush C dX10_compared_24 (v := 61) rfl ?_
      refine ab_icmp_eq C (tgt := 37) dX10_compared_26 (by decide) (fun hc5 => ?_) (fun hc5 => ?_)
      · replace h := ab_pos hc5 h
        refine ab_weak (lv' := [some (.inr (.inr (0, 0))), some (.inl q1.1), some (.inl q2), none]) ⟨.inr rfl, ⟨.inr rfl, ⟨.inr rfl, ⟨.inl rfl, trivial⟩⟩⟩⟩ ?_
        exact gX10_compared_b37 C hrec _ _ _ h
      · replace h := ab_neg hc5 h
        refine ab_iload_n C dX10_compared_29 rfl ?_
        refine ab_bipush C dX10_compared_30 (v := 62) rfl ?_
        refine ab_icmp_eq C (tgt := 37) dX10_compared_32 (by decide) (fun hc6 => ?_) (fun hc6 => ?_)
        · replace h := ab_pos hc6 h
          refine ab_weak (lv' := [some (.inr (.inr (0, 0))), some (.inl q1.1), some (.inl q2), none]) ⟨.inr rfl, ⟨.inr rfl, ⟨.inr rfl, ⟨.inl rfl, trivial⟩⟩⟩⟩ ?_
          exact gX10_compared_b37 C hrec _ _ _ h
        · replace h := ab_neg hc6 h
          refine ab_weak (lv' := [none, some (.inl q1.1), none, none]) ⟨.inl rfl, ⟨.inr rfl, ⟨.inl rfl, ⟨.inl rfl, trivial⟩⟩⟩⟩ ?_
          exact gX10_compared_b35 C hrec _ _ h
end
section
variable {p : Program} {l : Launch} {e : Env} {s : State} {m : MethodId} {args : Array Value} {below : List Frame} {meth : Method} {c : Code} {D : va_G} {cA : Nat → ClassId} {ad : Nat → Nat → Nat}
set_option maxRecDepth 100000 in
set_option maxHeartbeats 4000000 in
theorem gX10_either_b32 {n : Nat} {R : (Int32 × ab_S)} {rc0 : ab_S → Option (Int32 × ab_S)} {rc1 : ab_S → Option (Int32 × ab_S)} {rc2 : ab_S → Option (Int32 × ab_S)} {rc3 : ab_S → Option (Int32 × ab_S)} {rc4 : ab_S → Option (Int32 × ab_S)} {rc5 : ab_S → Option (Int32 × ab_S)} (C : ab_C yM p s m args meth c D cA ad cX10_either 3 RX10 (some .int)) (hrec : (∀ (σ : ab_S), ∀ (R : (Int32 × ab_S)), rc0 σ = some R → ab_M l yM yX10_both cX10_both 3 (some .int) (2 + n) [.inr (.inr (0, 0))] σ (some (.inl R.1)) R.2) ∧ (∀ (σ : ab_S), ∀ (R : (Int32 × ab_S)), rc1 σ = some R → ab_M l yM yX10_compared cX10_compared 4 (some .int) (2 + n) [.inr (.inr (0, 0))] σ (some (.inl R.1)) R.2) ∧ (∀ (σ : ab_S), ∀ (R : (Int32 × ab_S)), rc2 σ = some R → ab_M l yM yX10_either cX10_either 3 (some .int) (2 + n) [.inr (.inr (0, 0))] σ (some (.inl R.1)) R.2) ∧ (∀ (σ : ab_S), ∀ (R : (Int32 × ab_S)), rc3 σ = some R → ab_M l yM yX10_one cX10_one 5 (some .int) (2 + n) [.inr (.inr (0, 0))] σ (some (.inl R.1)) R.2) ∧ (∀ (σ : ab_S), ∀ (R : (Int32 × ab_S)), rc4 σ = some R → ab_M l yM yX10_product cX10_product 4 (some .int) (2 + n) [.inr (.inr (0, 0))] σ (some (.inl R.1)) R.2) ∧ (∀ (σ : ab_S), ∀ (R : (Int32 × ab_S)), rc5 σ = some R → ab_M l yM yX10_sums cX10_sums 4 (some .int) (2 + n) [.inr (.inr (0, 0))] σ (some (.inl R.1)) R.2)) {kk5 : Int32 → ab_S → Option (Int32 × ab_S)} (hk5 : ∀ (v1 : Int32) (σ : ab_S), kk5 v1 σ = some R → ab_G yM p l e s m args below meth c D cA ad 3 (2 + n + 1) (some (.inl R.1)) R.2 5 [some (.inr (.inr (0, 0))), some (.inl v1), none] [] σ) (t0 : Int32) (σ : ab_S) (h : fX10_either_b32 rc0 rc1 rc2 rc3 rc4 rc5 kk5 t0 σ = some R) : ab_G yM p l e s m args below meth c D cA ad 3 (2 + n + 1) (some (.inl R.1)) R.2 32 [some (.inr (.inr (0, 0))), none, none] [.inl t0] σ := by
  refine ab_istore_n C dX10_either_32 (Nat.le_of_ble_eq_true rfl) ?_
  refine ab_goto C (tgt := 5) dX10_either_33 (by decide) ?_
  refine ab_weak (lv' := [some (.inr (.inr (0, 0))), some (.inl t0), none]) ⟨.inr rfl, ⟨.inr rfl, ⟨.inl rfl, trivial⟩⟩⟩ ?_
  exact hk5 _ _ h
set_option maxRecDepth 100000 in
set_option maxHeartbeats 4000000 in
theorem gX10_either_b27 {n : Nat} {R : (Int32 × ab_S)} {rc0 : ab_S → Option (Int32 × ab_S)} {rc1 : ab_S → Option (Int32 × ab_S)} {rc2 : ab_S → Option (Int32 × ab_S)} {rc3 : ab_S → Option (Int32 × ab_S)} {rc4 : ab_S → Option (Int32 × ab_S)} {rc5 : ab_S → Option (Int32 × ab_S)} (C : ab_C yM p s m args meth c D cA ad cX10_either 3 RX10 (some .int)) (hrec : (∀ (σ : ab_S), ∀ (R : (Int32 × ab_S)), rc0 σ = some R → ab_M l yM yX10_both cX10_both 3 (some .int) (2 + n) [.inr (.inr (0, 0))] σ (some (.inl R.1)) R.2) ∧ (∀ (σ : ab_S), ∀ (R : (Int32 × ab_S)), rc1 σ = some R → ab_M l yM yX10_compared cX10_compared 4 (some .int) (2 + n) [.inr (.inr (0, 0))] σ (some (.inl R.1)) R.2) ∧ (∀ (σ : ab_S), ∀ (R : (Int32 × ab_S)), rc2 σ = some R → ab_M l yM yX10_either cX10_either 3 (some .int) (2 + n) [.inr (.inr (0, 0))] σ (some (.inl R.1)) R.2) ∧ (∀ (σ : ab_S), ∀ (R : (Int32 × ab_S)), rc3 σ = some R → ab_M l yM yX10_one cX10_one 5 (some .int) (2 + n) [.inr (.inr (0, 0))] σ (some (.inl R.1)) R.2) ∧ (∀ (σ : ab_S), ∀ (R : (Int32 × ab_S)), rc4 σ = some R → ab_M l yM yX10_product cX10_product 4 (some .int) (2 + n) [.inr (.inr (0, 0))] σ (some (.inl R.1)) R.2) ∧ (∀ (σ : ab_S), ∀ (R : (Int32 × ab_S)), rc5 σ = some R → ab_M l yM yX10_sums cX10_sums 4 (some .int) (2 + n) [.inr (.inr (0, 0))] σ (some (.inl R.1)) R.2)) {kk5 : Int32 → ab_S → Option (Int32 × ab_S)} (hk5 : ∀ (v1 : Int32) (σ : ab_S), kk5 v1 σ = some R → ab_G yM p l e s m args below meth c D cA ad 3 (2 + n + 1) (some (.inl R.1)) R.2 5 [some (.inr (.inr (0, 0))), some (.inl v1), none] [] σ) (σ : ab_S) (h : fX10_either_b27 rc0 rc1 rc2 rc3 rc4 rc5 kk5 σ = some R) : ab_G yM p l e s m args below meth c D cA ad 3 (2 + n + 1) (some (.inl R.1)) R.2 27 [some (.inr (.inr (0, 0))), none, none] [] σ := by
  refine ab_iconst C dX10_either_27 (v := 1) rfl ?_
  refine ab_goto C (tgt := 32) dX10_either_28 (by decide) ?_
  refine ab_weak (lv' := [some (.inr (.inr (0, 0))), none, none]) ⟨.inr rfl, ⟨.inl rfl, ⟨.inl rfl, trivial⟩⟩⟩ ?_
  exact gX10_either_b32 C hrec hk5 _ _ h
set_option maxRecDepth 100000 in
set_option maxHeartbeats 4000000 in
theorem gX10_either_b5_o {n : Nat} {R : (Int32 × ab_S)} {rc0 : ab_S → Option (Int32 × ab_S)} {rc1 : ab_S → Option (Int32 × ab_S)} {rc2 : ab_S → Option (Int32 × ab_S)} {rc3 : ab_S → Option (Int32 × ab_S)} {rc4 : ab_S → Option (Int32 × ab_S)} {rc5 : ab_S → Option (Int32 × ab_S)} (C : ab_C yM p s m args meth c D cA ad cX10_either 3 RX10 (some .int)) (hrec : (∀ (σ : ab_S), ∀ (R : (Int32 × ab_S)), rc0 σ = some R → ab_M l yM yX10_both cX10_both 3 (some .int) (2 + n) [.inr (.inr (0, 0))] σ (some (.inl R.1)) R.2) ∧ (∀ (σ : ab_S), ∀ (R : (Int32 × ab_S)), rc1 σ = some R → ab_M l yM yX10_compared cX10_compared 4 (some .int) (2 + n) [.inr (.inr (0, 0))] σ (some (.inl R.1)) R.2) ∧ (∀ (σ : ab_S), ∀ (R : (Int32 × ab_S)), rc2 σ = some R → ab_M l yM yX10_either cX10_either 3 (some .int) (2 + n) [.inr (.inr (0, 0))] σ (some (.inl R.1)) R.2) ∧ (∀ (σ : ab_S), ∀ (R : (Int32 × ab_S)), rc3 σ = some R → ab_M l yM yX10_one cX10_one 5 (some .int) (2 + n) [.inr (.inr (0, 0))] σ (some (.inl R.1)) R.2) ∧ (∀ (σ : ab_S), ∀ (R : (Int32 × ab_S)), rc4 σ = some R → ab_M l yM yX10_product cX10_product 4 (some .int) (2 + n) [.inr (.inr (0, 0))] σ (some (.inl R.1)) R.2) ∧ (∀ (σ : ab_S), ∀ (R : (Int32 × ab_S)), rc5 σ = some R → ab_M l yM yX10_sums cX10_sums 4 (some .int) (2 + n) [.inr (.inr (0, 0))] σ (some (.inl R.1)) R.2)) {kk5 : Int32 → ab_S → Option (Int32 × ab_S)} (hk5 : ∀ (v1 : Int32) (σ : ab_S), kk5 v1 σ = some R → ab_G yM p l e s m args below meth c D cA ad 3 (2 + n + 1) (some (.inl R.1)) R.2 5 [some (.inr (.inr (0, 0))), some (.inl v1), none] [] σ) (v1 : Int32) (σ : ab_S) (h : fX10_either_b5_o rc0 rc1 rc2 rc3 rc4 rc5 kk5 v1 σ = some R) : ab_G yM p l e s m args below meth c D cA ad 3 (2 + n + 1) (some (.inl R.1)) R.2 5 [some (.inr (.inr (0, 0))), some (.inl v1), none] [] σ := by
  refine ab_aload_n C dX10_either_5 rfl ?_
  refine ab_bipush C dX10_either_6 (v := 124) rfl ?_
  obtain ⟨q1, hq1, h⟩ := ab_bind h
  refine ab_inv1 C dX10_either_8 mlX10_172 yvX10_takes rkM_0 ⟨_, _, rfl⟩ mmM_0 (tX10_takes l _ _ hq1) (by omega) (Nat.le_of_ble_eq_true rfl) rfl (Nat.le_of_ble_eq_true rfl) ?_
  refine ab_if_eq C (tgt := 36) dX10_either_11 (by decide) (fun hc2 => ?_) (fun hc2 => ?_)
  · replace h := ab_pos hc2 h
    refine ab_iload_n C dX10_either_36 rfl ?_
    obtain rfl := Option.some.inj h
    exact ab_iret C dX10_either_37
  · replace h := ab_neg hc2 h
    refine ab_aload_n C dX10_either_14 rfl ?_
    obtain ⟨q3, hq3, h⟩ := ab_bind h
    refine ab_inv1 C dX10_either_15 mlX10_169 yvX10_both rkM_0 ⟨_, _, rfl⟩ mmM_0 (hrec.1 _ _ hq3) (by omega) (Nat.le_of_ble_eq_true rfl) rfl (Nat.le_of_ble_eq_true rfl) ?_
    refine ab_istore_n C dX10_either_18 (Nat.le_of_ble_eq_true rfl) ?_
    refine ab_iload_n C dX10_either_19 rfl ?_
    refine ab_if_ne C (tgt := 27) dX10_either_20 (by decide) (fun hc4 => ?_) (fun hc4 => ?_)
    · replace h := ab_neg hc4 h
      refine ab_weak (lv' := [some (.inr (.inr (0, 0))), none, none]) ⟨.inr rfl, ⟨.inl rfl, ⟨.inl rfl, trivial⟩⟩⟩ ?_
      exact gX10_either_b27 C hrec hk5 _ h
    · replace h := ab_pos hc4 h
      refine ab_iload_n C dX10_either_23 rfl ?_
      refine ab_if_eq C (tgt := 31) dX10_either_24 (by decide) (fun hc5 => ?_) (fun hc5 => ?_)
      · replace h := ab_pos hc5 h
        refine ab_iconst C dX10_either_31 (v := 0) rfl ?_
        refine ab_weak (lv' := [some (.inr (.inr (0, 0))), none, none]) ⟨.inr rfl, ⟨.inl rfl, ⟨.inl rfl, trivial⟩⟩⟩ ?_
        exact gX10_either_b32 C hrec hk5 _ _ h
      · replace h := ab_neg hc5 h
        refine ab_weak (lv' := [some (.inr (.inr (0, 0))), none, none]) ⟨.inr rfl, ⟨.inl rfl, ⟨.inl rfl, trivial⟩⟩⟩ ?_
        exact gX10_either_b27 C hrec hk5 _ h
theorem gX10_either_b5 {n : Nat} {R : (Int32 × ab_S)} {rc0 : ab_S → Option (Int32 × ab_S)} {rc1 : ab_S → Option (Int32 × ab_S)} {rc2 : ab_S → Option (Int32 × ab_S)} {rc3 : ab_S → Option (Int32 × ab_S)} {rc4 : ab_S → Option (Int32 × ab_S)} {rc5 : ab_S → Option (Int32 × ab_S)} (C : ab_C yM p s m args meth c D cA ad cX10_either 3 RX10 (some .int)) (hrec : (∀ (σ : ab_S), ∀ (R : (Int32 × ab_S)), rc0 σ = some R → ab_M l yM yX10_both cX10_both 3 (some .int) (2 + n) [.inr (.inr (0, 0))] σ (some (.inl R.1)) R.2) ∧ (∀ (σ : ab_S), ∀ (R : (Int32 × ab_S)), rc1 σ = some R → ab_M l yM yX10_compared cX10_compared 4 (some .int) (2 + n) [.inr (.inr (0, 0))] σ (some (.inl R.1)) R.2) ∧ (∀ (σ : ab_S), ∀ (R : (Int32 × ab_S)), rc2 σ = some R → ab_M l yM yX10_either cX10_either 3 (some .int) (2 + n) [.inr (.inr (0, 0))] σ (some (.inl R.1)) R.2) ∧ (∀ (σ : ab_S), ∀ (R : (Int32 × ab_S)), rc3 σ = some R → ab_M l yM yX10_one cX10_one 5 (some .int) (2 + n) [.inr (.inr (0, 0))] σ (some (.inl R.1)) R.2) ∧ (∀ (σ : ab_S), ∀ (R : (Int32 × ab_S)), rc4 σ = some R → ab_M l yM yX10_product cX10_product 4 (some .int) (2 + n) [.inr (.inr (0, 0))] σ (some (.inl R.1)) R.2) ∧ (∀ (σ : ab_S), ∀ (R : (Int32 × ab_S)), rc5 σ = some R → ab_M l yM yX10_sums cX10_sums 4 (some .int) (2 + n) [.inr (.inr (0, 0))] σ (some (.inl R.1)) R.2)) : ∀ (j : Nat) (v1 : Int32) (σ : ab_S), fX10_either_b5 rc0 rc1 rc2 rc3 rc4 rc5 j v1 σ = some R → ab_G yM p l e s m args below meth c D cA ad 3 (2 + n + 1) (some (.inl R.1)) R.2 5 [some (.inr (.inr (0, 0))), some (.inl v1), none] [] σ := by
  intro j
  induction j with
  | zero => intro v1 σ  h; cases h
  | succ j ih => intro v1 σ  h; exact gX10_either_b5_o C hrec ih _ _ h
set_option maxRecDepth 100000 in
set_option maxHeartbeats 4000000 in
theorem tX10_either_o (l : Launch) {n : Nat} {rc0 : ab_S → Option (Int32 × ab_S)} {rc1 : ab_S → Option (Int32 × ab_S)} {rc2 : ab_S → Option (Int32 × ab_S)} {rc3 : ab_S → Option (Int32 × ab_S)} {rc4 : ab_S → Option (Int32 × ab_S)} {rc5 : ab_S → Option (Int32 × ab_S)} (hrec : (∀ (σ : ab_S), ∀ (R : (Int32 × ab_S)), rc0 σ = some R → ab_M l yM yX10_both cX10_both 3 (some .int) (2 + n) [.inr (.inr (0, 0))] σ (some (.inl R.1)) R.2) ∧ (∀ (σ : ab_S), ∀ (R : (Int32 × ab_S)), rc1 σ = some R → ab_M l yM yX10_compared cX10_compared 4 (some .int) (2 + n) [.inr (.inr (0, 0))] σ (some (.inl R.1)) R.2) ∧ (∀ (σ : ab_S), ∀ (R : (Int32 × ab_S)), rc2 σ = some R → ab_M l yM yX10_either cX10_either 3 (some .int) (2 + n) [.inr (.inr (0, 0))] σ (some (.inl R.1)) R.2) ∧ (∀ (σ : ab_S), ∀ (R : (Int32 × ab_S)), rc3 σ = some R → ab_M l yM yX10_one cX10_one 5 (some .int) (2 + n) [.inr (.inr (0, 0))] σ (some (.inl R.1)) R.2) ∧ (∀ (σ : ab_S), ∀ (R : (Int32 × ab_S)), rc4 σ = some R → ab_M l yM yX10_product cX10_product 4 (some .int) (2 + n) [.inr (.inr (0, 0))] σ (some (.inl R.1)) R.2) ∧ (∀ (σ : ab_S), ∀ (R : (Int32 × ab_S)), rc5 σ = some R → ab_M l yM yX10_sums cX10_sums 4 (some .int) (2 + n) [.inr (.inr (0, 0))] σ (some (.inl R.1)) R.2)) (σ : ab_S) {R : (Int32 × ab_S)} (h : fX10_either_o rc0 rc1 rc2 rc3 rc4 rc5 σ = some R) : ab_M l yM yX10_either cX10_either 3 (some .int) (2 + n + 1) [.inr (.inr (0, 0))] σ (some (.inl R.1)) R.2 := by
  refine ab_M_intro ndM (by decide) (Nat.le_of_ble_eq_true rfl) ?_
  intro p e s m args below meth c D cA ad C
  have C : ab_C yM p s m args meth c D cA ad cX10_either 3 RX10 (some .int) := C
  refine ab_weak (lv' := [some (.inr (.inr (0, 0))), none, none]) ⟨.inr rfl, ⟨.inl rfl, ⟨.inl rfl, trivial⟩⟩⟩ ?_
  refine ab_aload_n C dX10_either_0 rfl ?_
  obtain ⟨q1, hq1, h⟩ := ab_bind h
  refine ab_inv1 C dX10_either_1 mlX10_169 yvX10_both rkM_0 ⟨_, _, rfl⟩ mmM_0 (hrec.1 _ _ hq1) (by omega) (Nat.le_of_ble_eq_true rfl) rfl (Nat.le_of_ble_eq_true rfl) ?_
  refine ab_istore_n C dX10_either_4 (Nat.le_of_ble_eq_true rfl) ?_
  refine ab_weak (lv' := [some (.inr (.inr (0, 0))), some (.inl q1.1), none]) ⟨.inr rfl, ⟨.inr rfl, ⟨.inl rfl, trivial⟩⟩⟩ ?_
  exact gX10_either_b5 C hrec ab_N _ _ h
end
section
variable {p : Program} {l : Launch} {e : Env} {s : State} {m : MethodId} {args : Array Value} {below : List Frame} {meth : Method} {c : Code} {D : va_G} {cA : Nat → ClassId} {ad : Nat → Nat → Nat}
set_option maxRecDepth 100000 in
set_option maxHeartbeats 4000000 in
theorem gX10_one_b144 {n : Nat} {R : (Int32 × ab_S)} {rc0 : ab_S → Option (Int32 × ab_S)} {rc1 : ab_S → Option (Int32 × ab_S)} {rc2 : ab_S → Option (Int32 × ab_S)} {rc3 : ab_S → Option (Int32 × ab_S)} {rc4 : ab_S → Option (Int32 × ab_S)} {rc5 : ab_S → Option (Int32 × ab_S)} (C : ab_C yM p s m args meth c D cA ad cX10_one 5 RX10 (some .int)) (hrec : (∀ (σ : ab_S), ∀ (R : (Int32 × ab_S)), rc0 σ = some R → ab_M l yM yX10_both cX10_both 3 (some .int) (2 + n) [.inr (.inr (0, 0))] σ (some (.inl R.1)) R.2) ∧ (∀ (σ : ab_S), ∀ (R : (Int32 × ab_S)), rc1 σ = some R → ab_M l yM yX10_compared cX10_compared 4 (some .int) (2 + n) [.inr (.inr (0, 0))] σ (some (.inl R.1)) R.2) ∧ (∀ (σ : ab_S), ∀ (R : (Int32 × ab_S)), rc2 σ = some R → ab_M l yM yX10_either cX10_either 3 (some .int) (2 + n) [.inr (.inr (0, 0))] σ (some (.inl R.1)) R.2) ∧ (∀ (σ : ab_S), ∀ (R : (Int32 × ab_S)), rc3 σ = some R → ab_M l yM yX10_one cX10_one 5 (some .int) (2 + n) [.inr (.inr (0, 0))] σ (some (.inl R.1)) R.2) ∧ (∀ (σ : ab_S), ∀ (R : (Int32 × ab_S)), rc4 σ = some R → ab_M l yM yX10_product cX10_product 4 (some .int) (2 + n) [.inr (.inr (0, 0))] σ (some (.inl R.1)) R.2) ∧ (∀ (σ : ab_S), ∀ (R : (Int32 × ab_S)), rc5 σ = some R → ab_M l yM yX10_sums cX10_sums 4 (some .int) (2 + n) [.inr (.inr (0, 0))] σ (some (.inl R.1)) R.2)) (t0 : Int32) (σ : ab_S) (h : fX10_one_b144 rc0 rc1 rc2 rc3 rc4 rc5 t0 σ = some R) : ab_G yM p l e s m args below meth c D cA ad 5 (2 + n + 1) (some (.inl R.1)) R.2 144 [none, none, none, none, none] [.inl t0] σ := by
  obtain rfl := Option.some.inj h
  exact ab_iret C dX10_one_144
set_option maxRecDepth 100000 in
set_option maxHeartbeats 4000000 in
theorem gX10_one_b104 {n : Nat} {R : (Int32 × ab_S)} {rc0 : ab_S → Option (Int32 × ab_S)} {rc1 : ab_S → Option (Int32 × ab_S)} {rc2 : ab_S → Option (Int32 × ab_S)} {rc3 : ab_S → Option (Int32 × ab_S)} {rc4 : ab_S → Option (Int32 × ab_S)} {rc5 : ab_S → Option (Int32 × ab_S)} (C : ab_C yM p s m args meth c D cA ad cX10_one 5 RX10 (some .int)) (hrec : (∀ (σ : ab_S), ∀ (R : (Int32 × ab_S)), rc0 σ = some R → ab_M l yM yX10_both cX10_both 3 (some .int) (2 + n) [.inr (.inr (0, 0))] σ (some (.inl R.1)) R.2) ∧ (∀ (σ : ab_S), ∀ (R : (Int32 × ab_S)), rc1 σ = some R → ab_M l yM yX10_compared cX10_compared 4 (some .int) (2 + n) [.inr (.inr (0, 0))] σ (some (.inl R.1)) R.2) ∧ (∀ (σ : ab_S), ∀ (R : (Int32 × ab_S)), rc2 σ = some R → ab_M l yM yX10_either cX10_either 3 (some .int) (2 + n) [.inr (.inr (0, 0))] σ (some (.inl R.1)) R.2) ∧ (∀ (σ : ab_S), ∀ (R : (Int32 × ab_S)), rc3 σ = some R → ab_M l yM yX10_one cX10_one 5 (some .int) (2 + n) [.inr (.inr (0, 0))] σ (some (.inl R.1)) R.2) ∧ (∀ (σ : ab_S), ∀ (R : (Int32 × ab_S)), rc4 σ = some R → ab_M l yM yX10_product cX10_product 4 (some .int) (2 + n) [.inr (.inr (0, 0))] σ (some (.inl R.1)) R.2) ∧ (∀ (σ : ab_S), ∀ (R : (Int32 × ab_S)), rc5 σ = some R → ab_M l yM yX10_sums cX10_sums 4 (some .int) (2 + n) [.inr (.inr (0, 0))] σ (some (.inl R.1)) R.2)) (v1 : Int32) (v2 : Int32) (σ : ab_S) (h : fX10_one_b104 rc0 rc1 rc2 rc3 rc4 rc5 v1 v2 σ = some R) : ab_G yM p l e s m args below meth c D cA ad 5 (2 + n + 1) (some (.inl R.1)) R.2 104 [some (.inr (.inr (0, 0))), some (.inl v1), some (.inl v2), none, none] [] σ := by
  refine ab_aload_n C dX10_one_104 rfl ?_
  refine ab_dup C dX10_one_105 rfl ?_
  refine ab_getI C dX10_one_106 flX10_187 rkM_0 rfl mmM_0 ?_
  refine ab_iconst C dX10_one_109 (v := 1) rfl ?_
  refine ab_isub C dX10_one_110  ?_
  refine ab_putI C dX10_one_111 fpX10_187 rkM_0 rfl mmM_0 rfl rfl ?_
  refine ab_nmS (fun σ1 eσ1 => ?_)
  replace h := ab_kh eσ1 h
  refine ab_iload_n C dX10_one_114 rfl ?_
  refine ab_bipush C dX10_one_115 (v := 40) rfl ?_
  refine ab_icmp_ne C (tgt := 124) dX10_one_117 (by decide) (fun hc2 => ?_) (fun hc2 => ?_)
  · replace h := ab_neg hc2 h
    refine ab_iload_n C dX10_one_124 rfl ?_
    refine ab_bipush C dX10_one_125 (v := 45) rfl ?_
    refine ab_icmp_ne C (tgt := 135) dX10_one_127 (by decide) (fun hc3 => ?_) (fun hc3 => ?_)
    · replace h := ab_neg hc3 h
      refine ab_iload_n C dX10_one_135 rfl ?_
      refine ab_if_ne C (tgt := 143) dX10_one_136 (by decide) (fun hc4 => ?_) (fun hc4 => ?_)
      · replace h := ab_neg hc4 h
        refine ab_iconst C dX10_one_143 (v := 0) rfl ?_
        refine ab_weak (lv' := [none, none, none, none, none]) ⟨.inl rfl, ⟨.inl rfl, ⟨.inl rfl, ⟨.inl rfl, ⟨.inl rfl, trivial⟩⟩⟩⟩⟩ ?_
        exact gX10_one_b144 C hrec _ _ h
      · replace h := ab_pos hc4 h
        refine ab_iconst C dX10_one_139 (v := 1) rfl ?_
        refine ab_goto C (tgt := 144) dX10_one_140 (by decide) ?_
        refine ab_weak (lv' := [none, none, none, none, none]) ⟨.inl rfl, ⟨.inl rfl, ⟨.inl rfl, ⟨.inl rfl, ⟨.inl rfl, trivial⟩⟩⟩⟩⟩ ?_
        exact gX10_one_b144 C hrec _ _ h
    · replace h := ab_pos hc3 h
      refine ab_iload_n C dX10_one_130 rfl ?_
      refine ab_ineg C dX10_one_131  ?_
      refine ab_goto C (tgt := 144) dX10_one_132 (by decide) ?_
      refine ab_weak (lv' := [none, none, none, none, none]) ⟨.inl rfl, ⟨.inl rfl, ⟨.inl rfl, ⟨.inl rfl, ⟨.inl rfl, trivial⟩⟩⟩⟩⟩ ?_
      exact gX10_one_b144 C hrec _ _ h
  · replace h := ab_pos hc2 h
    refine ab_iload_n C dX10_one_120 rfl ?_
    refine ab_goto C (tgt := 144) dX10_one_121 (by decide) ?_
    refine ab_weak (lv' := [none, none, none, none, none]) ⟨.inl rfl, ⟨.inl rfl, ⟨.inl rfl, ⟨.inl rfl, ⟨.inl rfl, trivial⟩⟩⟩⟩⟩ ?_
    exact gX10_one_b144 C hrec _ _ h
set_option maxRecDepth 100000 in
set_option maxHeartbeats 4000000 in
theorem gX10_one_b83 {n : Nat} {R : (Int32 × ab_S)} {rc0 : ab_S → Option (Int32 × ab_S)} {rc1 : ab_S → Option (Int32 × ab_S)} {rc2 : ab_S → Option (Int32 × ab_S)} {rc3 : ab_S → Option (Int32 × ab_S)} {rc4 : ab_S → Option (Int32 × ab_S)} {rc5 : ab_S → Option (Int32 × ab_S)} (C : ab_C yM p s m args meth c D cA ad cX10_one 5 RX10 (some .int)) (hrec : (∀ (σ : ab_S), ∀ (R : (Int32 × ab_S)), rc0 σ = some R → ab_M l yM yX10_both cX10_both 3 (some .int) (2 + n) [.inr (.inr (0, 0))] σ (some (.inl R.1)) R.2) ∧ (∀ (σ : ab_S), ∀ (R : (Int32 × ab_S)), rc1 σ = some R → ab_M l yM yX10_compared cX10_compared 4 (some .int) (2 + n) [.inr (.inr (0, 0))] σ (some (.inl R.1)) R.2) ∧ (∀ (σ : ab_S), ∀ (R : (Int32 × ab_S)), rc2 σ = some R → ab_M l yM yX10_either cX10_either 3 (some .int) (2 + n) [.inr (.inr (0, 0))] σ (some (.inl R.1)) R.2) ∧ (∀ (σ : ab_S), ∀ (R : (Int32 × ab_S)), rc3 σ = some R → ab_M l yM yX10_one cX10_one 5 (some .int) (2 + n) [.inr (.inr (0, 0))] σ (some (.inl R.1)) R.2) ∧ (∀ (σ : ab_S), ∀ (R : (Int32 × ab_S)), rc4 σ = some R → ab_M l yM yX10_product cX10_product 4 (some .int) (2 + n) [.inr (.inr (0, 0))] σ (some (.inl R.1)) R.2) ∧ (∀ (σ : ab_S), ∀ (R : (Int32 × ab_S)), rc5 σ = some R → ab_M l yM yX10_sums cX10_sums 4 (some .int) (2 + n) [.inr (.inr (0, 0))] σ (some (.inl R.1)) R.2)) (v1 : Int32) (t0 : Int32) (σ : ab_S) (h : fX10_one_b83 rc0 rc1 rc2 rc3 rc4 rc5 v1 t0 σ = some R) : ab_G yM p l e s m args below meth c D cA ad 5 (2 + n + 1) (some (.inl R.1)) R.2 83 [some (.inr (.inr (0, 0))), some (.inl v1), none, none, none] [.inl t0] σ := by
  refine ab_istore_n C dX10_one_83 (Nat.le_of_ble_eq_true rfl) ?_
  refine ab_iload_n C dX10_one_84 rfl ?_
  refine ab_bipush C dX10_one_85 (v := 40) rfl ?_
  refine ab_icmp_ne C (tgt := 104) dX10_one_87 (by decide) (fun hc1 => ?_) (fun hc1 => ?_)
  · replace h := ab_neg hc1 h
    refine ab_weak (lv' := [some (.inr (.inr (0, 0))), some (.inl v1), some (.inl t0), none, none]) ⟨.inr rfl, ⟨.inr rfl, ⟨.inr rfl, ⟨.inl rfl, ⟨.inl rfl, trivial⟩⟩⟩⟩⟩ ?_
    exact gX10_one_b104 C hrec _ _ _ h
  · replace h := ab_pos hc1 h
    refine ab_aload_n C dX10_one_90 rfl ?_
    refine ab_bipush C dX10_one_91 (v := 41) rfl ?_
    obtain ⟨q2, hq2, h⟩ := ab_bind h
    refine ab_inv1 C dX10_one_93 mlX10_172 yvX10_takes rkM_0 ⟨_, _, rfl⟩ mmM_0 (tX10_takes l _ _ hq2) (by omega) (Nat.le_of_ble_eq_true rfl) rfl (Nat.le_of_ble_eq_true rfl) ?_
    refine ab_if_ne C (tgt := 104) dX10_one_96 (by decide) (fun hc3 => ?_) (fun hc3 => ?_)
    · replace h := ab_neg hc3 h
      refine ab_weak (lv' := [some (.inr (.inr (0, 0))), some (.inl v1), some (.inl t0), none, none]) ⟨.inr rfl, ⟨.inr rfl, ⟨.inr rfl, ⟨.inl rfl, ⟨.inl rfl, trivial⟩⟩⟩⟩⟩ ?_
      exact gX10_one_b104 C hrec _ _ _ h
    · replace h := ab_pos hc3 h
      refine ab_aload_n C dX10_one_99 rfl ?_
      obtain ⟨q4, hq4, h⟩ := ab_bind h
      refine ab_inv1 C dX10_one_100 mlX10_190 yvX10_wrong rkM_0 ⟨_, _, rfl⟩ mmM_0 (tX10_wrong l _ hq4) (by omega) (Nat.le_of_ble_eq_true rfl) rfl (Nat.le_of_ble_eq_true rfl) ?_
      obtain rfl := Option.some.inj h
      exact ab_iret C dX10_one_103
set_option maxRecDepth 100000 in
set_option maxHeartbeats 4000000 in
theorem gX10_one_b32 {n : Nat} {R : (Int32 × ab_S)} {rc0 : ab_S → Option (Int32 × ab_S)} {rc1 : ab_S → Option (Int32 × ab_S)} {rc2 : ab_S → Option (Int32 × ab_S)} {rc3 : ab_S → Option (Int32 × ab_S)} {rc4 : ab_S → Option (Int32 × ab_S)} {rc5 : ab_S → Option (Int32 × ab_S)} (C : ab_C yM p s m args meth c D cA ad cX10_one 5 RX10 (some .int)) (hrec : (∀ (σ : ab_S), ∀ (R : (Int32 × ab_S)), rc0 σ = some R → ab_M l yM yX10_both cX10_both 3 (some .int) (2 + n) [.inr (.inr (0, 0))] σ (some (.inl R.1)) R.2) ∧ (∀ (σ : ab_S), ∀ (R : (Int32 × ab_S)), rc1 σ = some R → ab_M l yM yX10_compared cX10_compared 4 (some .int) (2 + n) [.inr (.inr (0, 0))] σ (some (.inl R.1)) R.2) ∧ (∀ (σ : ab_S), ∀ (R : (Int32 × ab_S)), rc2 σ = some R → ab_M l yM yX10_either cX10_either 3 (some .int) (2 + n) [.inr (.inr (0, 0))] σ (some (.inl R.1)) R.2) ∧ (∀ (σ : ab_S), ∀ (R : (Int32 × ab_S)), rc3 σ = some R → ab_M l yM yX10_one cX10_one 5 (some .int) (2 + n) [.inr (.inr (0, 0))] σ (some (.inl R.1)) R.2) ∧ (∀ (σ : ab_S), ∀ (R : (Int32 × ab_S)), rc4 σ = some R → ab_M l yM yX10_product cX10_product 4 (some .int) (2 + n) [.inr (.inr (0, 0))] σ (some (.inl R.1)) R.2) ∧ (∀ (σ : ab_S), ∀ (R : (Int32 × ab_S)), rc5 σ = some R → ab_M l yM yX10_sums cX10_sums 4 (some .int) (2 + n) [.inr (.inr (0, 0))] σ (some (.inl R.1)) R.2)) (v1 : Int32) (σ : ab_S) (h : fX10_one_b32 rc0 rc1 rc2 rc3 rc4 rc5 v1 σ = some R) : ab_G yM p l e s m args below meth c D cA ad 5 (2 + n + 1) (some (.inl R.1)) R.2 32 [some (.inr (.inr (0, 0))), some (.inl v1), none, none, none] [] σ := by
  refine ab_aload_n C dX10_one_32 rfl ?_
  refine ab_getI C dX10_one_33 flX10_187 rkM_0 rfl mmM_0 ?_
  refine ab_bipush C dX10_one_36 (v := 6) rfl ?_
  refine ab_icmp_ne C (tgt := 46) dX10_one_38 (by decide) (fun hc1 => ?_) (fun hc1 => ?_)
  · replace h := ab_neg hc1 h
    refine ab_aload_n C dX10_one_46 rfl ?_
    refine ab_dup C dX10_one_47 rfl ?_
    refine ab_getI C dX10_one_48 flX10_187 rkM_0 rfl mmM_0 ?_
    refine ab_iconst C dX10_one_51 (v := 1) rfl ?_
    refine ab_iadd C dX10_one_52  ?_
    refine ab_putI C dX10_one_53 fpX10_187 rkM_0 rfl mmM_0 rfl rfl ?_
    refine ab_nmS (fun σ2 eσ2 => ?_)
    replace h := ab_kh eσ2 h
    refine ab_aload_n C dX10_one_56 rfl ?_
    refine ab_dup C dX10_one_57 rfl ?_
    refine ab_getI C dX10_one_58 flX10_154 rkM_0 rfl mmM_0 ?_
    refine ab_iconst C dX10_one_61 (v := 1) rfl ?_
    refine ab_iadd C dX10_one_62  ?_
    refine ab_putI C dX10_one_63 fpX10_154 rkM_0 rfl mmM_0 rfl rfl ?_
    refine ab_nmS (fun σ3 eσ3 => ?_)
    replace h := ab_kh eσ3 h
    refine ab_iload_n C dX10_one_66 rfl ?_
    refine ab_bipush C dX10_one_67 (v := 40) rfl ?_
    refine ab_icmp_ne C (tgt := 79) dX10_one_69 (by decide) (fun hc4 => ?_) (fun hc4 => ?_)
    · replace h := ab_neg hc4 h
      refine ab_aload_n C dX10_one_79 rfl ?_
      obtain ⟨q5, hq5, h⟩ := ab_bind h
      refine ab_inv1 C dX10_one_80 mlX10_184 yvX10_one rkM_0 ⟨_, _, rfl⟩ mmM_0 (hrec.2.2.2.1 _ _ hq5) (by omega) (Nat.le_of_ble_eq_true rfl) rfl (Nat.le_of_ble_eq_true rfl) ?_
      refine ab_weak (lv' := [some (.inr (.inr (0, 0))), some (.inl v1), none, none, none]) ⟨.inr rfl, ⟨.inr rfl, ⟨.inl rfl, ⟨.inl rfl, ⟨.inl rfl, trivial⟩⟩⟩⟩⟩ ?_
      exact gX10_one_b83 C hrec _ _ _ h
    · replace h := ab_pos hc4 h
      refine ab_aload_n C dX10_one_72 rfl ?_
      obtain ⟨q6, hq6, h⟩ := ab_bind h
      refine ab_inv1 C dX10_one_73 mlX10_193 yvX10_either rkM_0 ⟨_, _, rfl⟩ mmM_0 (hrec.2.2.1 _ _ hq6) (by omega) (Nat.le_of_ble_eq_true rfl) rfl (Nat.le_of_ble_eq_true rfl) ?_
      refine ab_goto C (tgt := 83) dX10_one_76 (by decide) ?_
      refine ab_weak (lv' := [some (.inr (.inr (0, 0))), some (.inl v1), none, none, none]) ⟨.inr rfl, ⟨.inr rfl, ⟨.inl rfl, ⟨.inl rfl, ⟨.inl rfl, trivial⟩⟩⟩⟩⟩ ?_
      exact gX10_one_b83 C hrec _ _ _ h
  · replace h := ab_pos hc1 h
    refine ab_aload_n C dX10_one_41 rfl ?_
    obtain ⟨q7, hq7, h⟩ := ab_bind h
    refine ab_inv1 C dX10_one_42 mlX10_190 yvX10_wrong rkM_0 ⟨_, _, rfl⟩ mmM_0 (tX10_wrong l _ hq7) (by omega) (Nat.le_of_ble_eq_true rfl) rfl (Nat.le_of_ble_eq_true rfl) ?_
    obtain rfl := Option.some.inj h
    exact ab_iret C dX10_one_45
set_option maxRecDepth 100000 in
set_option maxHeartbeats 4000000 in
theorem gX10_one_b242 {n : Nat} {R : (Int32 × ab_S)} {rc0 : ab_S → Option (Int32 × ab_S)} {rc1 : ab_S → Option (Int32 × ab_S)} {rc2 : ab_S → Option (Int32 × ab_S)} {rc3 : ab_S → Option (Int32 × ab_S)} {rc4 : ab_S → Option (Int32 × ab_S)} {rc5 : ab_S → Option (Int32 × ab_S)} (C : ab_C yM p s m args meth c D cA ad cX10_one 5 RX10 (some .int)) (hrec : (∀ (σ : ab_S), ∀ (R : (Int32 × ab_S)), rc0 σ = some R → ab_M l yM yX10_both cX10_both 3 (some .int) (2 + n) [.inr (.inr (0, 0))] σ (some (.inl R.1)) R.2) ∧ (∀ (σ : ab_S), ∀ (R : (Int32 × ab_S)), rc1 σ = some R → ab_M l yM yX10_compared cX10_compared 4 (some .int) (2 + n) [.inr (.inr (0, 0))] σ (some (.inl R.1)) R.2) ∧ (∀ (σ : ab_S), ∀ (R : (Int32 × ab_S)), rc2 σ = some R → ab_M l yM yX10_either cX10_either 3 (some .int) (2 + n) [.inr (.inr (0, 0))] σ (some (.inl R.1)) R.2) ∧ (∀ (σ : ab_S), ∀ (R : (Int32 × ab_S)), rc3 σ = some R → ab_M l yM yX10_one cX10_one 5 (some .int) (2 + n) [.inr (.inr (0, 0))] σ (some (.inl R.1)) R.2) ∧ (∀ (σ : ab_S), ∀ (R : (Int32 × ab_S)), rc4 σ = some R → ab_M l yM yX10_product cX10_product 4 (some .int) (2 + n) [.inr (.inr (0, 0))] σ (some (.inl R.1)) R.2) ∧ (∀ (σ : ab_S), ∀ (R : (Int32 × ab_S)), rc5 σ = some R → ab_M l yM yX10_sums cX10_sums 4 (some .int) (2 + n) [.inr (.inr (0, 0))] σ (some (.inl R.1)) R.2)) (t0 : Int32) (σ : ab_S) (h : fX10_one_b242 rc0 rc1 rc2 rc3 rc4 rc5 t0 σ = some R) : ab_G yM p l e s m args below meth c D cA ad 5 (2 + n + 1) (some (.inl R.1)) R.2 242 [none, none, none, none, none] [.inl t0] σ := by
  obtain rfl := Option.some.inj h
  exact ab_iret C dX10_one_242
set_option maxRecDepth 100000 in
set_option maxHeartbeats 4000000 in
theorem gX10_one_b229 {n : Nat} {R : (Int32 × ab_S)} {rc0 : ab_S → Option (Int32 × ab_S)} {rc1 : ab_S → Option (Int32 × ab_S)} {rc2 : ab_S → Option (Int32 × ab_S)} {rc3 : ab_S → Option (Int32 × ab_S)} {rc4 : ab_S → Option (Int32 × ab_S)} {rc5 : ab_S → Option (Int32 × ab_S)} (C : ab_C yM p s m args meth c D cA ad cX10_one 5 RX10 (some .int)) (hrec : (∀ (σ : ab_S), ∀ (R : (Int32 × ab_S)), rc0 σ = some R → ab_M l yM yX10_both cX10_both 3 (some .int) (2 + n) [.inr (.inr (0, 0))] σ (some (.inl R.1)) R.2) ∧ (∀ (σ : ab_S), ∀ (R : (Int32 × ab_S)), rc1 σ = some R → ab_M l yM yX10_compared cX10_compared 4 (some .int) (2 + n) [.inr (.inr (0, 0))] σ (some (.inl R.1)) R.2) ∧ (∀ (σ : ab_S), ∀ (R : (Int32 × ab_S)), rc2 σ = some R → ab_M l yM yX10_either cX10_either 3 (some .int) (2 + n) [.inr (.inr (0, 0))] σ (some (.inl R.1)) R.2) ∧ (∀ (σ : ab_S), ∀ (R : (Int32 × ab_S)), rc3 σ = some R → ab_M l yM yX10_one cX10_one 5 (some .int) (2 + n) [.inr (.inr (0, 0))] σ (some (.inl R.1)) R.2) ∧ (∀ (σ : ab_S), ∀ (R : (Int32 × ab_S)), rc4 σ = some R → ab_M l yM yX10_product cX10_product 4 (some .int) (2 + n) [.inr (.inr (0, 0))] σ (some (.inl R.1)) R.2) ∧ (∀ (σ : ab_S), ∀ (R : (Int32 × ab_S)), rc5 σ = some R → ab_M l yM yX10_sums cX10_sums 4 (some .int) (2 + n) [.inr (.inr (0, 0))] σ (some (.inl R.1)) R.2)) (v3 : Int32) (v4 : Int32) (σ : ab_S) (h : fX10_one_b229 rc0 rc1 rc2 rc3 rc4 rc5 v3 v4 σ = some R) : ab_G yM p l e s m args below meth c D cA ad 5 (2 + n + 1) (some (.inl R.1)) R.2 229 [some (.inr (.inr (0, 0))), none, none, some (.inl v3), some (.inl v4)] [] σ := by
  refine ab_iload C dX10_one_229 rfl ?_
  refine ab_if_ne C (tgt := 241) dX10_one_231 (by decide) (fun hc1 => ?_) (fun hc1 => ?_)
  · replace h := ab_neg hc1 h
    refine ab_iload_n C dX10_one_241 rfl ?_
    refine ab_weak (lv' := [none, none, none, none, none]) ⟨.inl rfl, ⟨.inl rfl, ⟨.inl rfl, ⟨.inl rfl, ⟨.inl rfl, trivial⟩⟩⟩⟩⟩ ?_
    exact gX10_one_b242 C hrec _ _ h
  · replace h := ab_pos hc1 h
    refine ab_aload_n C dX10_one_234 rfl ?_
    obtain ⟨q2, hq2, h⟩ := ab_bind h
    refine ab_inv1 C dX10_one_235 mlX10_190 yvX10_wrong rkM_0 ⟨_, _, rfl⟩ mmM_0 (tX10_wrong l _ hq2) (by omega) (Nat.le_of_ble_eq_true rfl) rfl (Nat.le_of_ble_eq_true rfl) ?_
    refine ab_goto C (tgt := 242) dX10_one_238 (by decide) ?_
    refine ab_weak (lv' := [none, none, none, none, none]) ⟨.inl rfl, ⟨.inl rfl, ⟨.inl rfl, ⟨.inl rfl, ⟨.inl rfl, trivial⟩⟩⟩⟩⟩ ?_
    exact gX10_one_b242 C hrec _ _ h
set_option maxRecDepth 100000 in
set_option maxHeartbeats 4000000 in
theorem gX10_one_b176_o {n : Nat} {R : (Int32 × ab_S)} {rc0 : ab_S → Option (Int32 × ab_S)} {rc1 : ab_S → Option (Int32 × ab_S)} {rc2 : ab_S → Option (Int32 × ab_S)} {rc3 : ab_S → Option (Int32 × ab_S)} {rc4 : ab_S → Option (Int32 × ab_S)} {rc5 : ab_S → Option (Int32 × ab_S)} (C : ab_C yM p s m args meth c D cA ad cX10_one 5 RX10 (some .int)) (hrec : (∀ (σ : ab_S), ∀ (R : (Int32 × ab_S)), rc0 σ = some R → ab_M l yM yX10_both cX10_both 3 (some .int) (2 + n) [.inr (.inr (0, 0))] σ (some (.inl R.1)) R.2) ∧ (∀ (σ : ab_S), ∀ (R : (Int32 × ab_S)), rc1 σ = some R → ab_M l yM yX10_compared cX10_compared 4 (some .int) (2 + n) [.inr (.inr (0, 0))] σ (some (.inl R.1)) R.2) ∧ (∀ (σ : ab_S), ∀ (R : (Int32 × ab_S)), rc2 σ = some R → ab_M l yM yX10_either cX10_either 3 (some .int) (2 + n) [.inr (.inr (0, 0))] σ (some (.inl R.1)) R.2) ∧ (∀ (σ : ab_S), ∀ (R : (Int32 × ab_S)), rc3 σ = some R → ab_M l yM yX10_one cX10_one 5 (some .int) (2 + n) [.inr (.inr (0, 0))] σ (some (.inl R.1)) R.2) ∧ (∀ (σ : ab_S), ∀ (R : (Int32 × ab_S)), rc4 σ = some R → ab_M l yM yX10_product cX10_product 4 (some .int) (2 + n) [.inr (.inr (0, 0))] σ (some (.inl R.1)) R.2) ∧ (∀ (σ : ab_S), ∀ (R : (Int32 × ab_S)), rc5 σ = some R → ab_M l yM yX10_sums cX10_sums 4 (some .int) (2 + n) [.inr (.inr (0, 0))] σ (some (.inl R.1)) R.2)) {kk176 : Int32 → Int32 → ab_S → Option (Int32 × ab_S)} (hk176 : ∀ (v3 : Int32) (v4 : Int32) (σ : ab_S), kk176 v3 v4 σ = some R → ab_G yM p l e s m args below meth c D cA ad 5 (2 + n + 1) (some (.inl R.1)) R.2 176 [some (.inr (.inr (0, 0))), none, none, some (.inl v3), some (.inl v4)] [] σ) (v3 : Int32) (v4 : Int32) (σ : ab_S) (h : fX10_one_b176_o rc0 rc1 rc2 rc3 rc4 rc5 kk176 v3 v4 σ = some R) : ab_G yM p l e s m args below meth c D cA ad 5 (2 + n + 1) (some (.inl R.1)) R.2 176 [some (.inr (.inr (0, 0))), none, none, some (.inl v3), some (.inl v4)] [] σ := by
  refine ab_iload C dX10_one_176 rfl ?_
  refine ab_iconst C dX10_one_178 (v := 4) rfl ?_
  refine ab_icmp_ge C (tgt := 229) dX10_one_179 (by decide) (fun hc1 => ?_) (fun hc1 => ?_)
  · replace h := ab_pos hc1 h
    refine ab_weak (lv' := [some (.inr (.inr (0, 0))), none, none, some (.inl v3), some (.inl v4)]) ⟨.inr rfl, ⟨.inl rfl, ⟨.inl rfl, ⟨.inr rfl, ⟨.inr rfl, trivial⟩⟩⟩⟩⟩ ?_
    exact gX10_one_b229 C hrec _ _ _ h
  · replace h := ab_neg hc1 h
    refine ab_aload_n C dX10_one_182 rfl ?_
    obtain ⟨q2, hq2, h⟩ := ab_bind h
    refine ab_inv1 C dX10_one_183 mlX10_166 yvX10_byteAt rkM_0 ⟨_, _, rfl⟩ mmM_0 (tX10_byteAt l _ hq2) (by omega) (Nat.le_of_ble_eq_true rfl) rfl (Nat.le_of_ble_eq_true rfl) ?_
    refine ab_bipush C dX10_one_186 (v := 48) rfl ?_
    refine ab_icmp_lt C (tgt := 229) dX10_one_188 (by decide) (fun hc3 => ?_) (fun hc3 => ?_)
    · replace h := ab_pos hc3 h
      refine ab_weak (lv' := [some (.inr (.inr (0, 0))), none, none, some (.inl v3), some (.inl v4)]) ⟨.inr rfl, ⟨.inl rfl, ⟨.inl rfl, ⟨.inr rfl, ⟨.inr rfl, trivial⟩⟩⟩⟩⟩ ?_
      exact gX10_one_b229 C hrec _ _ _ h
    · replace h := ab_neg hc3 h
      refine ab_aload_n C dX10_one_191 rfl ?_
      obtain ⟨q4, hq4, h⟩ := ab_bind h
      refine ab_inv1 C dX10_one_192 mlX10_166 yvX10_byteAt rkM_0 ⟨_, _, rfl⟩ mmM_0 (tX10_byteAt l _ hq4) (by omega) (Nat.le_of_ble_eq_true rfl) rfl (Nat.le_of_ble_eq_true rfl) ?_
      refine ab_bipush C dX10_one_195 (v := 57) rfl ?_
      refine ab_icmp_gt C (tgt := 229) dX10_one_197 (by decide) (fun hc5 => ?_) (fun hc5 => ?_)
      · replace h := ab_pos hc5 h
        refine ab_weak (lv' := [some (.inr (.inr (0, 0))), none, none, some (.inl v3), some (.inl v4)]) ⟨.inr rfl, ⟨.inl rfl, ⟨.inl rfl, ⟨.inr rfl, ⟨.inr rfl, trivial⟩⟩⟩⟩⟩ ?_
        exact gX10_one_b229 C hrec _ _ _ h
      · replace h := ab_neg hc5 h
        refine ab_bipush C dX10_one_200 (v := 10) rfl ?_
        refine ab_iload_n C dX10_one_202 rfl ?_
        refine ab_imul C dX10_one_203  ?_
        refine ab_aload_n C dX10_one_204 rfl ?_
        obtain ⟨q6, hq6, h⟩ := ab_bind h
        refine ab_inv1 C dX10_one_205 mlX10_166 yvX10_byteAt rkM_0 ⟨_, _, rfl⟩ mmM_0 (tX10_byteAt l _ hq6) (by omega) (Nat.le_of_ble_eq_true rfl) rfl (Nat.le_of_ble_eq_true rfl) ?_
        refine ab_iadd C dX10_one_208  ?_
        refine ab_bipush C dX10_one_209 (v := 48) rfl ?_
        refine ab_isub C dX10_one_211  ?_
        refine ab_istore_n C dX10_one_212 (Nat.le_of_ble_eq_true rfl) ?_
        refine ab_iinc C dX10_one_213 rfl (v := 1) rfl (Nat.le_of_ble_eq_true rfl) ?_
        refine ab_aload_n C dX10_one_216 rfl ?_
        refine ab_dup C dX10_one_217 rfl ?_
        refine ab_getI C dX10_one_218 flX10_154 rkM_0 rfl mmM_0 ?_
        refine ab_iconst C dX10_one_221 (v := 1) rfl ?_
        refine ab_iadd C dX10_one_222  ?_
        refine ab_putI C dX10_one_223 fpX10_154 rkM_0 rfl mmM_0 rfl rfl ?_
        refine ab_nmS (fun σ7 eσ7 => ?_)
        replace h := ab_kh eσ7 h
        refine ab_goto C (tgt := 176) dX10_one_226 (by decide) ?_
        refine ab_weak (lv' := [some (.inr (.inr (0, 0))), none, none, some (.inl (((10 * v3) + q6) - 48)), some (.inl (v4 + 1))]) ⟨.inr rfl, ⟨.inl rfl, ⟨.inl rfl, ⟨.inr rfl, ⟨.inr rfl, trivial⟩⟩⟩⟩⟩ ?_
        exact hk176 _ _ _ h
theorem gX10_one_b176 {n : Nat} {R : (Int32 × ab_S)} {rc0 : ab_S → Option (Int32 × ab_S)} {rc1 : ab_S → Option (Int32 × ab_S)} {rc2 : ab_S → Option (Int32 × ab_S)} {rc3 : ab_S → Option (Int32 × ab_S)} {rc4 : ab_S → Option (Int32 × ab_S)} {rc5 : ab_S → Option (Int32 × ab_S)} (C : ab_C yM p s m args meth c D cA ad cX10_one 5 RX10 (some .int)) (hrec : (∀ (σ : ab_S), ∀ (R : (Int32 × ab_S)), rc0 σ = some R → ab_M l yM yX10_both cX10_both 3 (some .int) (2 + n) [.inr (.inr (0, 0))] σ (some (.inl R.1)) R.2) ∧ (∀ (σ : ab_S), ∀ (R : (Int32 × ab_S)), rc1 σ = some R → ab_M l yM yX10_compared cX10_compared 4 (some .int) (2 + n) [.inr (.inr (0, 0))] σ (some (.inl R.1)) R.2) ∧ (∀ (σ : ab_S), ∀ (R : (Int32 × ab_S)), rc2 σ = some R → ab_M l yM yX10_either cX10_either 3 (some .int) (2 + n) [.inr (.inr (0, 0))] σ (some (.inl R.1)) R.2) ∧ (∀ (σ : ab_S), ∀ (R : (Int32 × ab_S)), rc3 σ = some R → ab_M l yM yX10_one cX10_one 5 (some .int) (2 + n) [.inr (.inr (0, 0))] σ (some (.inl R.1)) R.2) ∧ (∀ (σ : ab_S), ∀ (R : (Int32 × ab_S)), rc4 σ = some R → ab_M l yM yX10_product cX10_product 4 (some .int) (2 + n) [.inr (.inr (0, 0))] σ (some (.inl R.1)) R.2) ∧ (∀ (σ : ab_S), ∀ (R : (Int32 × ab_S)), rc5 σ = some R → ab_M l yM yX10_sums cX10_sums 4 (some .int) (2 + n) [.inr (.inr (0, 0))] σ (some (.inl R.1)) R.2)) : ∀ (j : Nat) (v3 : Int32) (v4 : Int32) (σ : ab_S), fX10_one_b176 rc0 rc1 rc2 rc3 rc4 rc5 j v3 v4 σ = some R → ab_G yM p l e s m args below meth c D cA ad 5 (2 + n + 1) (some (.inl R.1)) R.2 176 [some (.inr (.inr (0, 0))), none, none, some (.inl v3), some (.inl v4)] [] σ := by
  intro j
  induction j with
  | zero => intro v3 v4 σ  h; cases h
  | succ j ih => intro v3 v4 σ  h; exact gX10_one_b176_o C hrec ih _ _ _ h
set_option maxRecDepth 100000 in
set_option maxHeartbeats 4000000 in
theorem tX10_one_o (l : Launch) {n : Nat} {rc0 : ab_S → Option (Int32 × ab_S)} {rc1 : ab_S → Option (Int32 × ab_S)} {rc2 : ab_S → Option (Int32 × ab_S)} {rc3 : ab_S → Option (Int32 × ab_S)} {rc4 : ab_S → Option (Int32 × ab_S)} {rc5 : ab_S → Option (Int32 × ab_S)} (hrec : (∀ (σ : ab_S), ∀ (R : (Int32 × ab_S)), rc0 σ = some R → ab_M l yM yX10_both cX10_both 3 (some .int) (2 + n) [.inr (.inr (0, 0))] σ (some (.inl R.1)) R.2) ∧ (∀ (σ : ab_S), ∀ (R : (Int32 × ab_S)), rc1 σ = some R → ab_M l yM yX10_compared cX10_compared 4 (some .int) (2 + n) [.inr (.inr (0, 0))] σ (some (.inl R.1)) R.2) ∧ (∀ (σ : ab_S), ∀ (R : (Int32 × ab_S)), rc2 σ = some R → ab_M l yM yX10_either cX10_either 3 (some .int) (2 + n) [.inr (.inr (0, 0))] σ (some (.inl R.1)) R.2) ∧ (∀ (σ : ab_S), ∀ (R : (Int32 × ab_S)), rc3 σ = some R → ab_M l yM yX10_one cX10_one 5 (some .int) (2 + n) [.inr (.inr (0, 0))] σ (some (.inl R.1)) R.2) ∧ (∀ (σ : ab_S), ∀ (R : (Int32 × ab_S)), rc4 σ = some R → ab_M l yM yX10_product cX10_product 4 (some .int) (2 + n) [.inr (.inr (0, 0))] σ (some (.inl R.1)) R.2) ∧ (∀ (σ : ab_S), ∀ (R : (Int32 × ab_S)), rc5 σ = some R → ab_M l yM yX10_sums cX10_sums 4 (some .int) (2 + n) [.inr (.inr (0, 0))] σ (some (.inl R.1)) R.2)) (σ : ab_S) {R : (Int32 × ab_S)} (h : fX10_one_o rc0 rc1 rc2 rc3 rc4 rc5 σ = some R) : ab_M l yM yX10_one cX10_one 5 (some .int) (2 + n + 1) [.inr (.inr (0, 0))] σ (some (.inl R.1)) R.2 := by
  refine ab_M_intro ndM (by decide) (Nat.le_of_ble_eq_true rfl) ?_
  intro p e s m args below meth c D cA ad C
  have C : ab_C yM p s m args meth c D cA ad cX10_one 5 RX10 (some .int) := C
  refine ab_weak (lv' := [some (.inr (.inr (0, 0))), none, none, none, none]) ⟨.inr rfl, ⟨.inl rfl, ⟨.inl rfl, ⟨.inl rfl, ⟨.inl rfl, trivial⟩⟩⟩⟩⟩ ?_
  refine ab_aload_n C dX10_one_0 rfl ?_
  refine ab_getI C dX10_one_1 flX10_163 rkM_0 rfl mmM_0 ?_
  refine ab_if_lt C (tgt := 9) dX10_one_4 (by decide) (fun hc1 => ?_) (fun hc1 => ?_)
  · replace h := ab_pos hc1 h
    refine ab_aload_n C dX10_one_9 rfl ?_
    obtain ⟨q2, hq2, h⟩ := ab_bind h
    refine ab_inv1 C dX10_one_10 mlX10_166 yvX10_byteAt rkM_0 ⟨_, _, rfl⟩ mmM_0 (tX10_byteAt l _ hq2) (by omega) (Nat.le_of_ble_eq_true rfl) rfl (Nat.le_of_ble_eq_true rfl) ?_
    refine ab_istore_n C dX10_one_13 (Nat.le_of_ble_eq_true rfl) ?_
    refine ab_iload_n C dX10_one_14 rfl ?_
    refine ab_bipush C dX10_one_15 (v := 33) rfl ?_
    refine ab_icmp_eq C (tgt := 32) dX10_one_17 (by decide) (fun hc3 => ?_) (fun hc3 => ?_)
    · replace h := ab_pos hc3 h
      refine ab_weak (lv' := [some (.inr (.inr (0, 0))), some (.inl q2), none, none, none]) ⟨.inr rfl, ⟨.inr rfl, ⟨.inl rfl, ⟨.inl rfl, ⟨.inl rfl, trivial⟩⟩⟩⟩⟩ ?_
      exact gX10_one_b32 C hrec _ _ h
    · replace h := ab_neg hc3 h
      refine ab_iload_n C dX10_one_20 rfl ?_
      refine ab_bipush C dX10_one_21 (v := 45) rfl ?_
      refine ab_icmp_eq C (tgt := 32) dX10_one_23 (by decide) (fun hc4 => ?_) (fun hc4 => ?_)
      · replace h := ab_pos hc4 h
        refine ab_weak (lv' := [some (.inr (.inr (0, 0))), some (.inl q2), none, none, none]) ⟨.inr rfl, ⟨.inr rfl, ⟨.inl rfl, ⟨.inl rfl, ⟨.inl rfl, trivial⟩⟩⟩⟩⟩ ?_
        exact gX10_one_b32 C hrec _ _ h
      · replace h := ab_neg hc4 h
        refine ab_iload_n C dX10_one_26 rfl ?_
        refine ab_bipush C dX10_one_27 (v := 40) rfl ?_
        refine ab_icmp_ne C (tgt := 145) dX10_one_29 (by decide) (fun hc5 => ?_) (fun hc5 => ?_)
        · replace h := ab_neg hc5 h
          refine ab_iload_n C dX10_one_145 rfl ?_
          obtain ⟨q6, hq6, h⟩ := ab_bind h
          refine ab_invS1 C dX10_one_146 mlX10_196 ysX10_nameOf (tX10_nameOf l _ _ hq6) (by omega) (Nat.le_of_ble_eq_true rfl) rfl (Nat.le_of_ble_eq_true rfl) ?_
          refine ab_istore_n C dX10_one_149 (Nat.le_of_ble_eq_true rfl) ?_
          refine ab_iload_n C dX10_one_150 rfl ?_
          refine ab_if_lt C (tgt := 171) dX10_one_151 (by decide) (fun hc7 => ?_) (fun hc7 => ?_)
          · replace h := ab_pos hc7 h
            refine ab_iconst C dX10_one_171 (v := 0) rfl ?_
            refine ab_istore_n C dX10_one_172 (Nat.le_of_ble_eq_true rfl) ?_
            refine ab_weak (lv' := [some (.inr (.inr (0, 0))), some (.inl q2), some (.inl q6), some (.inl 0), none]) ⟨.inr rfl, ⟨.inr rfl, ⟨.inr rfl, ⟨.inr rfl, ⟨.inl rfl, trivial⟩⟩⟩⟩⟩ ?_
            refine ab_iconst C dX10_one_173 (v := 0) rfl ?_
            refine ab_istore C dX10_one_174 (Nat.le_of_ble_eq_true rfl) ?_
            refine ab_weak (lv' := [some (.inr (.inr (0, 0))), none, none, some (.inl 0), some (.inl 0)]) ⟨.inr rfl, ⟨.inl rfl, ⟨.inl rfl, ⟨.inr rfl, ⟨.inr rfl, trivial⟩⟩⟩⟩⟩ ?_
            exact gX10_one_b176 C hrec ab_N _ _ _ h
          · replace h := ab_neg hc7 h
            refine ab_aload_n C dX10_one_154 rfl ?_
            refine ab_dup C dX10_one_155 rfl ?_
            refine ab_getI C dX10_one_156 flX10_154 rkM_0 rfl mmM_0 ?_
            refine ab_iconst C dX10_one_159 (v := 1) rfl ?_
            refine ab_iadd C dX10_one_160  ?_
            refine ab_putI C dX10_one_161 fpX10_154 rkM_0 rfl mmM_0 rfl rfl ?_
            refine ab_nmS (fun σ8 eσ8 => ?_)
            replace h := ab_kh eσ8 h
            refine ab_aload_n C dX10_one_164 rfl ?_
            refine ab_getR C dX10_one_165 flX10_42 rkM_0 rfl mmM_0 ?_
            refine ab_iload_n C dX10_one_168 rfl ?_
            obtain ⟨hg9, h⟩ := ab_grd h
            refine ab_iald C dX10_one_169 rkM_11 mmM_11 hg9 ?_
            obtain rfl := Option.some.inj h
            exact ab_iret C dX10_one_170
        · replace h := ab_pos hc5 h
          refine ab_weak (lv' := [some (.inr (.inr (0, 0))), some (.inl q2), none, none, none]) ⟨.inr rfl, ⟨.inr rfl, ⟨.inl rfl, ⟨.inl rfl, ⟨.inl rfl, trivial⟩⟩⟩⟩⟩ ?_
          exact gX10_one_b32 C hrec _ _ h
  · replace h := ab_neg hc1 h
    refine ab_iconst C dX10_one_7 (v := 0) rfl ?_
    obtain rfl := Option.some.inj h
    exact ab_iret C dX10_one_8
end
section
variable {p : Program} {l : Launch} {e : Env} {s : State} {m : MethodId} {args : Array Value} {below : List Frame} {meth : Method} {c : Code} {D : va_G} {cA : Nat → ClassId} {ad : Nat → Nat → Nat}
set_option maxRecDepth 100000 in
set_option maxHeartbeats 4000000 in
theorem gX10_product_b94 {n : Nat} {R : (Int32 × ab_S)} {rc0 : ab_S → Option (Int32 × ab_S)} {rc1 : ab_S → Option (Int32 × ab_S)} {rc2 : ab_S → Option (Int32 × ab_S)} {rc3 : ab_S → Option (Int32 × ab_S)} {rc4 : ab_S → Option (Int32 × ab_S)} {rc5 : ab_S → Option (Int32 × ab_S)} (C : ab_C yM p s m args meth c D cA ad cX10_product 4 RX10 (some .int)) (hrec : (∀ (σ : ab_S), ∀ (R : (Int32 × ab_S)), rc0 σ = some R → ab_M l yM yX10_both cX10_both 3 (some .int) (2 + n) [.inr (.inr (0, 0))] σ (some (.inl R.1)) R.2) ∧ (∀ (σ : ab_S), ∀ (R : (Int32 × ab_S)), rc1 σ = some R → ab_M l yM yX10_compared cX10_compared 4 (some .int) (2 + n) [.inr (.inr (0, 0))] σ (some (.inl R.1)) R.2) ∧ (∀ (σ : ab_S), ∀ (R : (Int32 × ab_S)), rc2 σ = some R → ab_M l yM yX10_either cX10_either 3 (some .int) (2 + n) [.inr (.inr (0, 0))] σ (some (.inl R.1)) R.2) ∧ (∀ (σ : ab_S), ∀ (R : (Int32 × ab_S)), rc3 σ = some R → ab_M l yM yX10_one cX10_one 5 (some .int) (2 + n) [.inr (.inr (0, 0))] σ (some (.inl R.1)) R.2) ∧ (∀ (σ : ab_S), ∀ (R : (Int32 × ab_S)), rc4 σ = some R → ab_M l yM yX10_product cX10_product 4 (some .int) (2 + n) [.inr (.inr (0, 0))] σ (some (.inl R.1)) R.2) ∧ (∀ (σ : ab_S), ∀ (R : (Int32 × ab_S)), rc5 σ = some R → ab_M l yM yX10_sums cX10_sums 4 (some .int) (2 + n) [.inr (.inr (0, 0))] σ (some (.inl R.1)) R.2)) (v1 : Int32) (σ : ab_S) (h : fX10_product_b94 rc0 rc1 rc2 rc3 rc4 rc5 v1 σ = some R) : ab_G yM p l e s m args below meth c D cA ad 4 (2 + n + 1) (some (.inl R.1)) R.2 94 [none, some (.inl v1), none, none] [] σ := by
  refine ab_iload_n C dX10_product_94 rfl ?_
  obtain rfl := Option.some.inj h
  exact ab_iret C dX10_product_95
set_option maxRecDepth 100000 in
set_option maxHeartbeats 4000000 in
theorem gX10_product_b85 {n : Nat} {R : (Int32 × ab_S)} {rc0 : ab_S → Option (Int32 × ab_S)} {rc1 : ab_S → Option (Int32 × ab_S)} {rc2 : ab_S → Option (Int32 × ab_S)} {rc3 : ab_S → Option (Int32 × ab_S)} {rc4 : ab_S → Option (Int32 × ab_S)} {rc5 : ab_S → Option (Int32 × ab_S)} (C : ab_C yM p s m args meth c D cA ad cX10_product 4 RX10 (some .int)) (hrec : (∀ (σ : ab_S), ∀ (R : (Int32 × ab_S)), rc0 σ = some R → ab_M l yM yX10_both cX10_both 3 (some .int) (2 + n) [.inr (.inr (0, 0))] σ (some (.inl R.1)) R.2) ∧ (∀ (σ : ab_S), ∀ (R : (Int32 × ab_S)), rc1 σ = some R → ab_M l yM yX10_compared cX10_compared 4 (some .int) (2 + n) [.inr (.inr (0, 0))] σ (some (.inl R.1)) R.2) ∧ (∀ (σ : ab_S), ∀ (R : (Int32 × ab_S)), rc2 σ = some R → ab_M l yM yX10_either cX10_either 3 (some .int) (2 + n) [.inr (.inr (0, 0))] σ (some (.inl R.1)) R.2) ∧ (∀ (σ : ab_S), ∀ (R : (Int32 × ab_S)), rc3 σ = some R → ab_M l yM yX10_one cX10_one 5 (some .int) (2 + n) [.inr (.inr (0, 0))] σ (some (.inl R.1)) R.2) ∧ (∀ (σ : ab_S), ∀ (R : (Int32 × ab_S)), rc4 σ = some R → ab_M l yM yX10_product cX10_product 4 (some .int) (2 + n) [.inr (.inr (0, 0))] σ (some (.inl R.1)) R.2) ∧ (∀ (σ : ab_S), ∀ (R : (Int32 × ab_S)), rc5 σ = some R → ab_M l yM yX10_sums cX10_sums 4 (some .int) (2 + n) [.inr (.inr (0, 0))] σ (some (.inl R.1)) R.2)) {kk10 : Int32 → Int32 → ab_S → Option (Int32 × ab_S)} (hk10 : ∀ (v1 : Int32) (v2 : Int32) (σ : ab_S), kk10 v1 v2 σ = some R → ab_G yM p l e s m args below meth c D cA ad 4 (2 + n + 1) (some (.inl R.1)) R.2 10 [some (.inr (.inr (0, 0))), some (.inl v1), some (.inl v2), none] [] σ) (t0 : Int32) (σ : ab_S) (h : fX10_product_b85 rc0 rc1 rc2 rc3 rc4 rc5 kk10 t0 σ = some R) : ab_G yM p l e s m args below meth c D cA ad 4 (2 + n + 1) (some (.inl R.1)) R.2 85 [some (.inr (.inr (0, 0))), none, none, none] [.inl t0] σ := by
  refine ab_istore_n C dX10_product_85 (Nat.le_of_ble_eq_true rfl) ?_
  refine ab_aload_n C dX10_product_86 rfl ?_
  obtain ⟨q1, hq1, h⟩ := ab_bind h
  refine ab_inv1 C dX10_product_87 mlX10_166 yvX10_byteAt rkM_0 ⟨_, _, rfl⟩ mmM_0 (tX10_byteAt l _ hq1) (by omega) (Nat.le_of_ble_eq_true rfl) rfl (Nat.le_of_ble_eq_true rfl) ?_
  refine ab_istore_n C dX10_product_90 (Nat.le_of_ble_eq_true rfl) ?_
  refine ab_goto C (tgt := 10) dX10_product_91 (by decide) ?_
  refine ab_weak (lv' := [some (.inr (.inr (0, 0))), some (.inl t0), some (.inl q1), none]) ⟨.inr rfl, ⟨.inr rfl, ⟨.inr rfl, ⟨.inl rfl, trivial⟩⟩⟩⟩ ?_
  exact hk10 _ _ _ h
set_option maxRecDepth 100000 in
set_option maxHeartbeats 4000000 in
theorem gX10_product_b35 {n : Nat} {R : (Int32 × ab_S)} {rc0 : ab_S → Option (Int32 × ab_S)} {rc1 : ab_S → Option (Int32 × ab_S)} {rc2 : ab_S → Option (Int32 × ab_S)} {rc3 : ab_S → Option (Int32 × ab_S)} {rc4 : ab_S → Option (Int32 × ab_S)} {rc5 : ab_S → Option (Int32 × ab_S)} (C : ab_C yM p s m args meth c D cA ad cX10_product 4 RX10 (some .int)) (hrec : (∀ (σ : ab_S), ∀ (R : (Int32 × ab_S)), rc0 σ = some R → ab_M l yM yX10_both cX10_both 3 (some .int) (2 + n) [.inr (.inr (0, 0))] σ (some (.inl R.1)) R.2) ∧ (∀ (σ : ab_S), ∀ (R : (Int32 × ab_S)), rc1 σ = some R → ab_M l yM yX10_compared cX10_compared 4 (some .int) (2 + n) [.inr (.inr (0, 0))] σ (some (.inl R.1)) R.2) ∧ (∀ (σ : ab_S), ∀ (R : (Int32 × ab_S)), rc2 σ = some R → ab_M l yM yX10_either cX10_either 3 (some .int) (2 + n) [.inr (.inr (0, 0))] σ (some (.inl R.1)) R.2) ∧ (∀ (σ : ab_S), ∀ (R : (Int32 × ab_S)), rc3 σ = some R → ab_M l yM yX10_one cX10_one 5 (some .int) (2 + n) [.inr (.inr (0, 0))] σ (some (.inl R.1)) R.2) ∧ (∀ (σ : ab_S), ∀ (R : (Int32 × ab_S)), rc4 σ = some R → ab_M l yM yX10_product cX10_product 4 (some .int) (2 + n) [.inr (.inr (0, 0))] σ (some (.inl R.1)) R.2) ∧ (∀ (σ : ab_S), ∀ (R : (Int32 × ab_S)), rc5 σ = some R → ab_M l yM yX10_sums cX10_sums 4 (some .int) (2 + n) [.inr (.inr (0, 0))] σ (some (.inl R.1)) R.2)) {kk10 : Int32 → Int32 → ab_S → Option (Int32 × ab_S)} (hk10 : ∀ (v1 : Int32) (v2 : Int32) (σ : ab_S), kk10 v1 v2 σ = some R → ab_G yM p l e s m args below meth c D cA ad 4 (2 + n + 1) (some (.inl R.1)) R.2 10 [some (.inr (.inr (0, 0))), some (.inl v1), some (.inl v2), none] [] σ) (v1 : Int32) (v2 : Int32) (σ : ab_S) (h : fX10_product_b35 rc0 rc1 rc2 rc3 rc4 rc5 kk10 v1 v2 σ = some R) : ab_G yM p l e s m args below meth c D cA ad 4 (2 + n + 1) (some (.inl R.1)) R.2 35 [some (.inr (.inr (0, 0))), some (.inl v1), some (.inl v2), none] [] σ := by
  refine ab_aload_n C dX10_product_35 rfl ?_
  refine ab_dup C dX10_product_36 rfl ?_
  refine ab_getI C dX10_product_37 flX10_154 rkM_0 rfl mmM_0 ?_
  refine ab_iconst C dX10_product_40 (v := 1) rfl ?_
  refine ab_iadd C dX10_product_41  ?_
  refine ab_putI C dX10_product_42 fpX10_154 rkM_0 rfl mmM_0 rfl rfl ?_
  refine ab_nmS (fun σ1 eσ1 => ?_)
  replace h := ab_kh eσ1 h
  refine ab_aload_n C dX10_product_45 rfl ?_
  obtain ⟨q2, hq2, h⟩ := ab_bind h
  refine ab_inv1 C dX10_product_46 mlX10_184 yvX10_one rkM_0 ⟨_, _, rfl⟩ mmM_0 (hrec.2.2.2.1 _ _ hq2) (by omega) (Nat.le_of_ble_eq_true rfl) rfl (Nat.le_of_ble_eq_true rfl) ?_
  refine ab_istore_n C dX10_product_49 (Nat.le_of_ble_eq_true rfl) ?_
  refine ab_iload_n C dX10_product_50 rfl ?_
  refine ab_bipush C dX10_product_51 (v := 42) rfl ?_
  refine ab_icmp_ne C (tgt := 62) dX10_product_53 (by decide) (fun hc3 => ?_) (fun hc3 => ?_)
  · replace h := ab_neg hc3 h
    refine ab_iload_n C dX10_product_62 rfl ?_
    refine ab_if_ne C (tgt := 70) dX10_product_63 (by decide) (fun hc4 => ?_) (fun hc4 => ?_)
    · replace h := ab_neg hc4 h
      refine ab_iload_n C dX10_product_70 rfl ?_
      refine ab_bipush C dX10_product_71 (v := 47) rfl ?_
      refine ab_icmp_ne C (tgt := 82) dX10_product_73 (by decide) (fun hc5 => ?_) (fun hc5 => ?_)
      · replace h := ab_neg hc5 h
        refine ab_iload_n C dX10_product_82 rfl ?_
        refine ab_iload_n C dX10_product_83 rfl ?_
        obtain ⟨hg6, h⟩ := ab_grn h
        refine ab_irem C dX10_product_84 hg6 ?_
        refine ab_weak (lv' := [some (.inr (.inr (0, 0))), none, none, none]) ⟨.inr rfl, ⟨.inl rfl, ⟨.inl rfl, ⟨.inl rfl, trivial⟩⟩⟩⟩ ?_
        exact gX10_product_b85 C hrec hk10 _ _ h
      · replace h := ab_pos hc5 h
        refine ab_iload_n C dX10_product_76 rfl ?_
        refine ab_iload_n C dX10_product_77 rfl ?_
        obtain ⟨hg7, h⟩ := ab_grn h
        refine ab_idiv C dX10_product_78 hg7 ?_
        refine ab_goto C (tgt := 85) dX10_product_79 (by decide) ?_
        refine ab_weak (lv' := [some (.inr (.inr (0, 0))), none, none, none]) ⟨.inr rfl, ⟨.inl rfl, ⟨.inl rfl, ⟨.inl rfl, trivial⟩⟩⟩⟩ ?_
        exact gX10_product_b85 C hrec hk10 _ _ h
    · replace h := ab_pos hc4 h
      refine ab_iconst C dX10_product_66 (v := 0) rfl ?_
      refine ab_goto C (tgt := 85) dX10_product_67 (by decide) ?_
      refine ab_weak (lv' := [some (.inr (.inr (0, 0))), none, none, none]) ⟨.inr rfl, ⟨.inl rfl, ⟨.inl rfl, ⟨.inl rfl, trivial⟩⟩⟩⟩ ?_
      exact gX10_product_b85 C hrec hk10 _ _ h
  · replace h := ab_pos hc3 h
    refine ab_iload_n C dX10_product_56 rfl ?_
    refine ab_iload_n C dX10_product_57 rfl ?_
    refine ab_imul C dX10_product_58  ?_
    refine ab_goto C (tgt := 85) dX10_product_59 (by decide) ?_
    refine ab_weak (lv' := [some (.inr (.inr (0, 0))), none, none, none]) ⟨.inr rfl, ⟨.inl rfl, ⟨.inl rfl, ⟨.inl rfl, trivial⟩⟩⟩⟩ ?_
    exact gX10_product_b85 C hrec hk10 _ _ h
set_option maxRecDepth 100000 in
set_option maxHeartbeats 4000000 in
theorem gX10_product_b10_o {n : Nat} {R : (Int32 × ab_S)} {rc0 : ab_S → Option (Int32 × ab_S)} {rc1 : ab_S → Option (Int32 × ab_S)} {rc2 : ab_S → Option (Int32 × ab_S)} {rc3 : ab_S → Option (Int32 × ab_S)} {rc4 : ab_S → Option (Int32 × ab_S)} {rc5 : ab_S → Option (Int32 × ab_S)} (C : ab_C yM p s m args meth c D cA ad cX10_product 4 RX10 (some .int)) (hrec : (∀ (σ : ab_S), ∀ (R : (Int32 × ab_S)), rc0 σ = some R → ab_M l yM yX10_both cX10_both 3 (some .int) (2 + n) [.inr (.inr (0, 0))] σ (some (.inl R.1)) R.2) ∧ (∀ (σ : ab_S), ∀ (R : (Int32 × ab_S)), rc1 σ = some R → ab_M l yM yX10_compared cX10_compared 4 (some .int) (2 + n) [.inr (.inr (0, 0))] σ (some (.inl R.1)) R.2) ∧ (∀ (σ : ab_S), ∀ (R : (Int32 × ab_S)), rc2 σ = some R → ab_M l yM yX10_either cX10_either 3 (some .int) (2 + n) [.inr (.inr (0, 0))] σ (some (.inl R.1)) R.2) ∧ (∀ (σ : ab_S), ∀ (R : (Int32 × ab_S)), rc3 σ = some R → ab_M l yM yX10_one cX10_one 5 (some .int) (2 + n) [.inr (.inr (0, 0))] σ (some (.inl R.1)) R.2) ∧ (∀ (σ : ab_S), ∀ (R : (Int32 × ab_S)), rc4 σ = some R → ab_M l yM yX10_product cX10_product 4 (some .int) (2 + n) [.inr (.inr (0, 0))] σ (some (.inl R.1)) R.2) ∧ (∀ (σ : ab_S), ∀ (R : (Int32 × ab_S)), rc5 σ = some R → ab_M l yM yX10_sums cX10_sums 4 (some .int) (2 + n) [.inr (.inr (0, 0))] σ (some (.inl R.1)) R.2)) {kk10 : Int32 → Int32 → ab_S → Option (Int32 × ab_S)} (hk10 : ∀ (v1 : Int32) (v2 : Int32) (σ : ab_S), kk10 v1 v2 σ = some R → ab_G yM p l e s m args below meth c D cA ad 4 (2 + n + 1) (some (.inl R.1)) R.2 10 [some (.inr (.inr (0, 0))), some (.inl v1), some (.inl v2), none] [] σ) (v1 : Int32) (v2 : Int32) (σ : ab_S) (h : fX10_product_b10_o rc0 rc1 rc2 rc3 rc4 rc5 kk10 v1 v2 σ = some R) : ab_G yM p l e s m args below meth c D cA ad 4 (2 + n + 1) (some (.inl R.1)) R.2 10 [some (.inr (.inr (0, 0))), some (.inl v1), some (.inl v2), none] [] σ := by
  refine ab_aload_n C dX10_product_10 rfl ?_
  refine ab_getI C dX10_product_11 flX10_163 rkM_0 rfl mmM_0 ?_
  refine ab_if_ge C (tgt := 94) dX10_product_14 (by decide) (fun hc1 => ?_) (fun hc1 => ?_)
  · replace h := ab_pos hc1 h
    refine ab_weak (lv' := [none, some (.inl v1), none, none]) ⟨.inl rfl, ⟨.inr rfl, ⟨.inl rfl, ⟨.inl rfl, trivial⟩⟩⟩⟩ ?_
    exact gX10_product_b94 C hrec _ _ h
  · replace h := ab_neg hc1 h
    refine ab_iload_n C dX10_product_17 rfl ?_
    refine ab_bipush C dX10_product_18 (v := 42) rfl ?_
    refine ab_icmp_eq C (tgt := 35) dX10_product_20 (by decide) (fun hc2 => ?_) (fun hc2 => ?_)
    · replace h := ab_pos hc2 h
      refine ab_weak (lv' := [some (.inr (.inr (0, 0))), some (.inl v1), some (.inl v2), none]) ⟨.inr rfl, ⟨.inr rfl, ⟨.inr rfl, ⟨.inl rfl, trivial⟩⟩⟩⟩ ?_
      exact gX10_product_b35 C hrec hk10 _ _ _ h
    · replace h := ab_neg hc2 h
      refine ab_iload_n C dX10_product_23 rfl ?_
      refine ab_bipush C dX10_product_24 (v := 47) rfl ?_
      refine ab_icmp_eq C (tgt := 35) dX10_product_26 (by decide) (fun hc3 => ?_) (fun hc3 => ?_)
      · replace h := ab_pos hc3 h
        refine ab_weak (lv' := [some (.inr (.inr (0, 0))), some (.inl v1), some (.inl v2), none]) ⟨.inr rfl, ⟨.inr rfl, ⟨.inr rfl, ⟨.inl rfl, trivial⟩⟩⟩⟩ ?_
        exact gX10_product_b35 C hrec hk10 _ _ _ h
      · replace h := ab_neg hc3 h
        refine ab_iload_n C dX10_product_29 rfl ?_
        refine ab_bipush C dX10_product_30 (v := 37) rfl ?_
        refine ab_icmp_ne C (tgt := 94) dX10_product_32 (by decide) (fun hc4 => ?_) (fun hc4 => ?_)
        · replace h := ab_neg hc4 h
          refine ab_weak (lv' := [none, some (.inl v1), none, none]) ⟨.inl rfl, ⟨.inr rfl, ⟨.inl rfl, ⟨.inl rfl, trivial⟩⟩⟩⟩ ?_
          exact gX10_product_b94 C hrec _ _ h
        · replace h := ab_pos hc4 h
          refine ab_weak (lv' := [some (.inr (.inr (0, 0))), some (.inl v1), some (.inl v2), none]) ⟨.inr rfl, ⟨.inr rfl, ⟨.inr rfl, ⟨.inl rfl, trivial⟩⟩⟩⟩ ?_
          exact gX10_product_b35 C hrec hk10 _ _ _ h
theorem gX10_product_b10 {n : Nat} {R : (Int32 × ab_S)} {rc0 : ab_S → Option (Int32 × ab_S)} {rc1 : ab_S → Option (Int32 × ab_S)} {rc2 : ab_S → Option (Int32 × ab_S)} {rc3 : ab_S → Option (Int32 × ab_S)} {rc4 : ab_S → Option (Int32 × ab_S)} {rc5 : ab_S → Option (Int32 × ab_S)} (C : ab_C yM p s m args meth c D cA ad cX10_product 4 RX10 (some .int)) (hrec : (∀ (σ : ab_S), ∀ (R : (Int32 × ab_S)), rc0 σ = some R → ab_M l yM yX10_both cX10_both 3 (some .int) (2 + n) [.inr (.inr (0, 0))] σ (some (.inl R.1)) R.2) ∧ (∀ (σ : ab_S), ∀ (R : (Int32 × ab_S)), rc1 σ = some R → ab_M l yM yX10_compared cX10_compared 4 (some .int) (2 + n) [.inr (.inr (0, 0))] σ (some (.inl R.1)) R.2) ∧ (∀ (σ : ab_S), ∀ (R : (Int32 × ab_S)), rc2 σ = some R → ab_M l yM yX10_either cX10_either 3 (some .int) (2 + n) [.inr (.inr (0, 0))] σ (some (.inl R.1)) R.2) ∧ (∀ (σ : ab_S), ∀ (R : (Int32 × ab_S)), rc3 σ = some R → ab_M l yM yX10_one cX10_one 5 (some .int) (2 + n) [.inr (.inr (0, 0))] σ (some (.inl R.1)) R.2) ∧ (∀ (σ : ab_S), ∀ (R : (Int32 × ab_S)), rc4 σ = some R → ab_M l yM yX10_product cX10_product 4 (some .int) (2 + n) [.inr (.inr (0, 0))] σ (some (.inl R.1)) R.2) ∧ (∀ (σ : ab_S), ∀ (R : (Int32 × ab_S)), rc5 σ = some R → ab_M l yM yX10_sums cX10_sums 4 (some .int) (2 + n) [.inr (.inr (0, 0))] σ (some (.inl R.1)) R.2)) : ∀ (j : Nat) (v1 : Int32) (v2 : Int32) (σ : ab_S), fX10_product_b10 rc0 rc1 rc2 rc3 rc4 rc5 j v1 v2 σ = some R → ab_G yM p l e s m args below meth c D cA ad 4 (2 + n + 1) (some (.inl R.1)) R.2 10 [some (.inr (.inr (0, 0))), some (.inl v1), some (.inl v2), none] [] σ := by
  intro j
  induction j with
  | zero => intro v1 v2 σ  h; cases h
  | succ j ih => intro v1 v2 σ  h; exact gX10_product_b10_o C hrec ih _ _ _ h
set_option maxRecDepth 100000 in
set_option maxHeartbeats 4000000 in
theorem tX10_product_o (l : Launch) {n : Nat} {rc0 : ab_S → Option (Int32 × ab_S)} {rc1 : ab_S → Option (Int32 × ab_S)} {rc2 : ab_S → Option (Int32 × ab_S)} {rc3 : ab_S → Option (Int32 × ab_S)} {rc4 : ab_S → Option (Int32 × ab_S)} {rc5 : ab_S → Option (Int32 × ab_S)} (hrec : (∀ (σ : ab_S), ∀ (R : (Int32 × ab_S)), rc0 σ = some R → ab_M l yM yX10_both cX10_both 3 (some .int) (2 + n) [.inr (.inr (0, 0))] σ (some (.inl R.1)) R.2) ∧ (∀ (σ : ab_S), ∀ (R : (Int32 × ab_S)), rc1 σ = some R → ab_M l yM yX10_compared cX10_compared 4 (some .int) (2 + n) [.inr (.inr (0, 0))] σ (some (.inl R.1)) R.2) ∧ (∀ (σ : ab_S), ∀ (R : (Int32 × ab_S)), rc2 σ = some R → ab_M l yM yX10_either cX10_either 3 (some .int) (2 + n) [.inr (.inr (0, 0))] σ (some (.inl R.1)) R.2) ∧ (∀ (σ : ab_S), ∀ (R : (Int32 × ab_S)), rc3 σ = some R → ab_M l yM yX10_one cX10_one 5 (some .int) (2 + n) [.inr (.inr (0, 0))] σ (some (.inl R.1)) R.2) ∧ (∀ (σ : ab_S), ∀ (R : (Int32 × ab_S)), rc4 σ = some R → ab_M l yM yX10_product cX10_product 4 (some .int) (2 + n) [.inr (.inr (0, 0))] σ (some (.inl R.1)) R.2) ∧ (∀ (σ : ab_S), ∀ (R : (Int32 × ab_S)), rc5 σ = some R → ab_M l yM yX10_sums cX10_sums 4 (some .int) (2 + n) [.inr (.inr (0, 0))] σ (some (.inl R.1)) R.2)) (σ : ab_S) {R : (Int32 × ab_S)} (h : fX10_product_o rc0 rc1 rc2 rc3 rc4 rc5 σ = some R) : ab_M l yM yX10_product cX10_product 4 (some .int) (2 + n + 1) [.inr (.inr (0, 0))] σ (some (.inl R.1)) R.2 := by
  refine ab_M_intro ndM (by decide) (Nat.le_of_ble_eq_true rfl) ?_
  intro p e s m args below meth c D cA ad C
  have C : ab_C yM p s m args meth c D cA ad cX10_product 4 RX10 (some .int) := C
  refine ab_weak (lv' := [some (.inr (.inr (0, 0))), none, none, none]) ⟨.inr rfl, ⟨.inl rfl, ⟨.inl rfl, ⟨.inl rfl, trivial⟩⟩⟩⟩ ?_
  refine ab_aload_n C dX10_product_0 rfl ?_
  obtain ⟨q1, hq1, h⟩ := ab_bind h
  refine ab_inv1 C dX10_product_1 mlX10_184 yvX10_one rkM_0 ⟨_, _, rfl⟩ mmM_0 (hrec.2.2.2.1 _ _ hq1) (by omega) (Nat.le_of_ble_eq_true rfl) rfl (Nat.le_of_ble_eq_true rfl) ?_
  refine ab_istore_n C dX10_product_4 (Nat.le_of_ble_eq_true rfl) ?_
  refine ab_aload_n C dX10_product_5 rfl ?_
  obtain ⟨q2, hq2, h⟩ := ab_bind h
  refine ab_inv1 C dX10_product_6 mlX10_166 yvX10_byteAt rkM_0 ⟨_, _, rfl⟩ mmM_0 (tX10_byteAt l _ hq2) (by omega) (Nat.le_of_ble_eq_true rfl) rfl (Nat.le_of_ble_eq_true rfl) ?_
  refine ab_istore_n C dX10_product_9 (Nat.le_of_ble_eq_true rfl) ?_
  refine ab_weak (lv' := [some (.inr (.inr (0, 0))), some (.inl q1.1), some (.inl q2), none]) ⟨.inr rfl, ⟨.inr rfl, ⟨.inr rfl, ⟨.inl rfl, trivial⟩⟩⟩⟩ ?_
  exact gX10_product_b10 C hrec ab_N _ _ _ h
end
section
variable {p : Program} {l : Launch} {e : Env} {s : State} {m : MethodId} {args : Array Value} {below : List Frame} {meth : Method} {c : Code} {D : va_G} {cA : Nat → ClassId} {ad : Nat → Nat → Nat}
set_option maxRecDepth 100000 in
set_option maxHeartbeats 4000000 in
theorem gX10_sums_b77 {n : Nat} {R : (Int32 × ab_S)} {rc0 : ab_S → Option (Int32 × ab_S)} {rc1 : ab_S → Option (Int32 × ab_S)} {rc2 : ab_S → Option (Int32 × ab_S)} {rc3 : ab_S → Option (Int32 × ab_S)} {rc4 : ab_S → Option (Int32 × ab_S)} {rc5 : ab_S → Option (Int32 × ab_S)} (C : ab_C yM p s m args meth c D cA ad cX10_sums 4 RX10 (some .int)) (hrec : (∀ (σ : ab_S), ∀ (R : (Int32 × ab_S)), rc0 σ = some R → ab_M l yM yX10_both cX10_both 3 (some .int) (2 + n) [.inr (.inr (0, 0))] σ (some (.inl R.1)) R.2) ∧ (∀ (σ : ab_S), ∀ (R : (Int32 × ab_S)), rc1 σ = some R → ab_M l yM yX10_compared cX10_compared 4 (some .int) (2 + n) [.inr (.inr (0, 0))] σ (some (.inl R.1)) R.2) ∧ (∀ (σ : ab_S), ∀ (R : (Int32 × ab_S)), rc2 σ = some R → ab_M l yM yX10_either cX10_either 3 (some .int) (2 + n) [.inr (.inr (0, 0))] σ (some (.inl R.1)) R.2) ∧ (∀ (σ : ab_S), ∀ (R : (Int32 × ab_S)), rc3 σ = some R → ab_M l yM yX10_one cX10_one 5 (some .int) (2 + n) [.inr (.inr (0, 0))] σ (some (.inl R.1)) R.2) ∧ (∀ (σ : ab_S), ∀ (R : (Int32 × ab_S)), rc4 σ = some R → ab_M l yM yX10_product cX10_product 4 (some .int) (2 + n) [.inr (.inr (0, 0))] σ (some (.inl R.1)) R.2) ∧ (∀ (σ : ab_S), ∀ (R : (Int32 × ab_S)), rc5 σ = some R → ab_M l yM yX10_sums cX10_sums 4 (some .int) (2 + n) [.inr (.inr (0, 0))] σ (some (.inl R.1)) R.2)) (v1 : Int32) (σ : ab_S) (h : fX10_sums_b77 rc0 rc1 rc2 rc3 rc4 rc5 v1 σ = some R) : ab_G yM p l e s m args below meth c D cA ad 4 (2 + n + 1) (some (.inl R.1)) R.2 77 [none, some (.inl v1), none, none] [] σ := by
  refine ab_iload_n C dX10_sums_77 rfl ?_
  obtain rfl := Option.some.inj h
  exact ab_iret C dX10_sums_78
set_option maxRecDepth 100000 in
set_option maxHeartbeats 4000000 in
theorem gX10_sums_b73 {n : Nat} {R : (Int32 × ab_S)} {rc0 : ab_S → Option (Int32 × ab_S)} {rc1 : ab_S → Option (Int32 × ab_S)} {rc2 : ab_S → Option (Int32 × ab_S)} {rc3 : ab_S → Option (Int32 × ab_S)} {rc4 : ab_S → Option (Int32 × ab_S)} {rc5 : ab_S → Option (Int32 × ab_S)} (C : ab_C yM p s m args meth c D cA ad cX10_sums 4 RX10 (some .int)) (hrec : (∀ (σ : ab_S), ∀ (R : (Int32 × ab_S)), rc0 σ = some R → ab_M l yM yX10_both cX10_both 3 (some .int) (2 + n) [.inr (.inr (0, 0))] σ (some (.inl R.1)) R.2) ∧ (∀ (σ : ab_S), ∀ (R : (Int32 × ab_S)), rc1 σ = some R → ab_M l yM yX10_compared cX10_compared 4 (some .int) (2 + n) [.inr (.inr (0, 0))] σ (some (.inl R.1)) R.2) ∧ (∀ (σ : ab_S), ∀ (R : (Int32 × ab_S)), rc2 σ = some R → ab_M l yM yX10_either cX10_either 3 (some .int) (2 + n) [.inr (.inr (0, 0))] σ (some (.inl R.1)) R.2) ∧ (∀ (σ : ab_S), ∀ (R : (Int32 × ab_S)), rc3 σ = some R → ab_M l yM yX10_one cX10_one 5 (some .int) (2 + n) [.inr (.inr (0, 0))] σ (some (.inl R.1)) R.2) ∧ (∀ (σ : ab_S), ∀ (R : (Int32 × ab_S)), rc4 σ = some R → ab_M l yM yX10_product cX10_product 4 (some .int) (2 + n) [.inr (.inr (0, 0))] σ (some (.inl R.1)) R.2) ∧ (∀ (σ : ab_S), ∀ (R : (Int32 × ab_S)), rc5 σ = some R → ab_M l yM yX10_sums cX10_sums 4 (some .int) (2 + n) [.inr (.inr (0, 0))] σ (some (.inl R.1)) R.2)) {kk5 : Int32 → ab_S → Option (Int32 × ab_S)} (hk5 : ∀ (v1 : Int32) (σ : ab_S), kk5 v1 σ = some R → ab_G yM p l e s m args below meth c D cA ad 4 (2 + n + 1) (some (.inl R.1)) R.2 5 [some (.inr (.inr (0, 0))), some (.inl v1), none, none] [] σ) (t0 : Int32) (σ : ab_S) (h : fX10_sums_b73 rc0 rc1 rc2 rc3 rc4 rc5 kk5 t0 σ = some R) : ab_G yM p l e s m args below meth c D cA ad 4 (2 + n + 1) (some (.inl R.1)) R.2 73 [some (.inr (.inr (0, 0))), none, none, none] [.inl t0] σ := by
  refine ab_istore_n C dX10_sums_73 (Nat.le_of_ble_eq_true rfl) ?_
  refine ab_goto C (tgt := 5) dX10_sums_74 (by decide) ?_
  refine ab_weak (lv' := [some (.inr (.inr (0, 0))), some (.inl t0), none, none]) ⟨.inr rfl, ⟨.inr rfl, ⟨.inl rfl, ⟨.inl rfl, trivial⟩⟩⟩⟩ ?_
  exact hk5 _ _ h
set_option maxRecDepth 100000 in
set_option maxHeartbeats 4000000 in
theorem gX10_sums_b44 {n : Nat} {R : (Int32 × ab_S)} {rc0 : ab_S → Option (Int32 × ab_S)} {rc1 : ab_S → Option (Int32 × ab_S)} {rc2 : ab_S → Option (Int32 × ab_S)} {rc3 : ab_S → Option (Int32 × ab_S)} {rc4 : ab_S → Option (Int32 × ab_S)} {rc5 : ab_S → Option (Int32 × ab_S)} (C : ab_C yM p s m args meth c D cA ad cX10_sums 4 RX10 (some .int)) (hrec : (∀ (σ : ab_S), ∀ (R : (Int32 × ab_S)), rc0 σ = some R → ab_M l yM yX10_both cX10_both 3 (some .int) (2 + n) [.inr (.inr (0, 0))] σ (some (.inl R.1)) R.2) ∧ (∀ (σ : ab_S), ∀ (R : (Int32 × ab_S)), rc1 σ = some R → ab_M l yM yX10_compared cX10_compared 4 (some .int) (2 + n) [.inr (.inr (0, 0))] σ (some (.inl R.1)) R.2) ∧ (∀ (σ : ab_S), ∀ (R : (Int32 × ab_S)), rc2 σ = some R → ab_M l yM yX10_either cX10_either 3 (some .int) (2 + n) [.inr (.inr (0, 0))] σ (some (.inl R.1)) R.2) ∧ (∀ (σ : ab_S), ∀ (R : (Int32 × ab_S)), rc3 σ = some R → ab_M l yM yX10_one cX10_one 5 (some .int) (2 + n) [.inr (.inr (0, 0))] σ (some (.inl R.1)) R.2) ∧ (∀ (σ : ab_S), ∀ (R : (Int32 × ab_S)), rc4 σ = some R → ab_M l yM yX10_product cX10_product 4 (some .int) (2 + n) [.inr (.inr (0, 0))] σ (some (.inl R.1)) R.2) ∧ (∀ (σ : ab_S), ∀ (R : (Int32 × ab_S)), rc5 σ = some R → ab_M l yM yX10_sums cX10_sums 4 (some .int) (2 + n) [.inr (.inr (0, 0))] σ (some (.inl R.1)) R.2)) {kk5 : Int32 → ab_S → Option (Int32 × ab_S)} (hk5 : ∀ (v1 : Int32) (σ : ab_S), kk5 v1 σ = some R → ab_G yM p l e s m args below meth c D cA ad 4 (2 + n + 1) (some (.inl R.1)) R.2 5 [some (.inr (.inr (0, 0))), some (.inl v1), none, none] [] σ) (v1 : Int32) (t0 : Int32) (σ : ab_S) (h : fX10_sums_b44 rc0 rc1 rc2 rc3 rc4 rc5 kk5 v1 t0 σ = some R) : ab_G yM p l e s m args below meth c D cA ad 4 (2 + n + 1) (some (.inl R.1)) R.2 44 [some (.inr (.inr (0, 0))), some (.inl v1), none, none] [.inl t0] σ := by
  refine ab_istore_n C dX10_sums_44 (Nat.le_of_ble_eq_true rfl) ?_
  refine ab_aload_n C dX10_sums_45 rfl ?_
  refine ab_dup C dX10_sums_46 rfl ?_
  refine ab_getI C dX10_sums_47 flX10_154 rkM_0 rfl mmM_0 ?_
  refine ab_iconst C dX10_sums_50 (v := 1) rfl ?_
  refine ab_iadd C dX10_sums_51  ?_
  refine ab_putI C dX10_sums_52 fpX10_154 rkM_0 rfl mmM_0 rfl rfl ?_
  refine ab_nmS (fun σ1 eσ1 => ?_)
  replace h := ab_kh eσ1 h
  refine ab_aload_n C dX10_sums_55 rfl ?_
  obtain ⟨q2, hq2, h⟩ := ab_bind h
  refine ab_inv1 C dX10_sums_56 mlX10_181 yvX10_product rkM_0 ⟨_, _, rfl⟩ mmM_0 (hrec.2.2.2.2.1 _ _ hq2) (by omega) (Nat.le_of_ble_eq_true rfl) rfl (Nat.le_of_ble_eq_true rfl) ?_
  refine ab_istore_n C dX10_sums_59 (Nat.le_of_ble_eq_true rfl) ?_
  refine ab_iload_n C dX10_sums_60 rfl ?_
  refine ab_if_eq C (tgt := 70) dX10_sums_61 (by decide) (fun hc3 => ?_) (fun hc3 => ?_)
  · replace h := ab_pos hc3 h
    refine ab_iload_n C dX10_sums_70 rfl ?_
    refine ab_iload_n C dX10_sums_71 rfl ?_
    refine ab_isub C dX10_sums_72  ?_
    refine ab_weak (lv' := [some (.inr (.inr (0, 0))), none, none, none]) ⟨.inr rfl, ⟨.inl rfl, ⟨.inl rfl, ⟨.inl rfl, trivial⟩⟩⟩⟩ ?_
    exact gX10_sums_b73 C hrec hk5 _ _ h
  · replace h := ab_neg hc3 h
    refine ab_iload_n C dX10_sums_64 rfl ?_
    refine ab_iload_n C dX10_sums_65 rfl ?_
    refine ab_iadd C dX10_sums_66  ?_
    refine ab_goto C (tgt := 73) dX10_sums_67 (by decide) ?_
    refine ab_weak (lv' := [some (.inr (.inr (0, 0))), none, none, none]) ⟨.inr rfl, ⟨.inl rfl, ⟨.inl rfl, ⟨.inl rfl, trivial⟩⟩⟩⟩ ?_
    exact gX10_sums_b73 C hrec hk5 _ _ h
set_option maxRecDepth 100000 in
set_option maxHeartbeats 4000000 in
theorem gX10_sums_b30 {n : Nat} {R : (Int32 × ab_S)} {rc0 : ab_S → Option (Int32 × ab_S)} {rc1 : ab_S → Option (Int32 × ab_S)} {rc2 : ab_S → Option (Int32 × ab_S)} {rc3 : ab_S → Option (Int32 × ab_S)} {rc4 : ab_S → Option (Int32 × ab_S)} {rc5 : ab_S → Option (Int32 × ab_S)} (C : ab_C yM p s m args meth c D cA ad cX10_sums 4 RX10 (some .int)) (hrec : (∀ (σ : ab_S), ∀ (R : (Int32 × ab_S)), rc0 σ = some R → ab_M l yM yX10_both cX10_both 3 (some .int) (2 + n) [.inr (.inr (0, 0))] σ (some (.inl R.1)) R.2) ∧ (∀ (σ : ab_S), ∀ (R : (Int32 × ab_S)), rc1 σ = some R → ab_M l yM yX10_compared cX10_compared 4 (some .int) (2 + n) [.inr (.inr (0, 0))] σ (some (.inl R.1)) R.2) ∧ (∀ (σ : ab_S), ∀ (R : (Int32 × ab_S)), rc2 σ = some R → ab_M l yM yX10_either cX10_either 3 (some .int) (2 + n) [.inr (.inr (0, 0))] σ (some (.inl R.1)) R.2) ∧ (∀ (σ : ab_S), ∀ (R : (Int32 × ab_S)), rc3 σ = some R → ab_M l yM yX10_one cX10_one 5 (some .int) (2 + n) [.inr (.inr (0, 0))] σ (some (.inl R.1)) R.2) ∧ (∀ (σ : ab_S), ∀ (R : (Int32 × ab_S)), rc4 σ = some R → ab_M l yM yX10_product cX10_product 4 (some .int) (2 + n) [.inr (.inr (0, 0))] σ (some (.inl R.1)) R.2) ∧ (∀ (σ : ab_S), ∀ (R : (Int32 × ab_S)), rc5 σ = some R → ab_M l yM yX10_sums cX10_sums 4 (some .int) (2 + n) [.inr (.inr (0, 0))] σ (some (.inl R.1)) R.2)) {kk5 : Int32 → ab_S → Option (Int32 × ab_S)} (hk5 : ∀ (v1 : Int32) (σ : ab_S), kk5 v1 σ = some R → ab_G yM p l e s m args below meth c D cA ad 4 (2 + n + 1) (some (.inl R.1)) R.2 5 [some (.inr (.inr (0, 0))), some (.inl v1), none, none] [] σ) (v1 : Int32) (σ : ab_S) (h : fX10_sums_b30 rc0 rc1 rc2 rc3 rc4 rc5 kk5 v1 σ = some R) : ab_G yM p l e s m args below meth c D cA ad 4 (2 + n + 1) (some (.inl R.1)) R.2 30 [some (.inr (.inr (0, 0))), some (.inl v1), none, none] [] σ := by
  refine ab_aload_n C dX10_sums_30 rfl ?_
  obtain ⟨q1, hq1, h⟩ := ab_bind h
  refine ab_inv1 C dX10_sums_31 mlX10_166 yvX10_byteAt rkM_0 ⟨_, _, rfl⟩ mmM_0 (tX10_byteAt l _ hq1) (by omega) (Nat.le_of_ble_eq_true rfl) rfl (Nat.le_of_ble_eq_true rfl) ?_
  refine ab_bipush C dX10_sums_34 (v := 43) rfl ?_
  refine ab_icmp_ne C (tgt := 43) dX10_sums_36 (by decide) (fun hc2 => ?_) (fun hc2 => ?_)
  · replace h := ab_neg hc2 h
    refine ab_iconst C dX10_sums_43 (v := 0) rfl ?_
    refine ab_weak (lv' := [some (.inr (.inr (0, 0))), some (.inl v1), none, none]) ⟨.inr rfl, ⟨.inr rfl, ⟨.inl rfl, ⟨.inl rfl, trivial⟩⟩⟩⟩ ?_
    exact gX10_sums_b44 C hrec hk5 _ _ _ h
  · replace h := ab_pos hc2 h
    refine ab_iconst C dX10_sums_39 (v := 1) rfl ?_
    refine ab_goto C (tgt := 44) dX10_sums_40 (by decide) ?_
    refine ab_weak (lv' := [some (.inr (.inr (0, 0))), some (.inl v1), none, none]) ⟨.inr rfl, ⟨.inr rfl, ⟨.inl rfl, ⟨.inl rfl, trivial⟩⟩⟩⟩ ?_
    exact gX10_sums_b44 C hrec hk5 _ _ _ h
set_option maxRecDepth 100000 in
set_option maxHeartbeats 4000000 in
theorem gX10_sums_b5_o {n : Nat} {R : (Int32 × ab_S)} {rc0 : ab_S → Option (Int32 × ab_S)} {rc1 : ab_S → Option (Int32 × ab_S)} {rc2 : ab_S → Option (Int32 × ab_S)} {rc3 : ab_S → Option (Int32 × ab_S)} {rc4 : ab_S → Option (Int32 × ab_S)} {rc5 : ab_S → Option (Int32 × ab_S)} (C : ab_C yM p s m args meth c D cA ad cX10_sums 4 RX10 (some .int)) (hrec : (∀ (σ : ab_S), ∀ (R : (Int32 × ab_S)), rc0 σ = some R → ab_M l yM yX10_both cX10_both 3 (some .int) (2 + n) [.inr (.inr (0, 0))] σ (some (.inl R.1)) R.2) ∧ (∀ (σ : ab_S), ∀ (R : (Int32 × ab_S)), rc1 σ = some R → ab_M l yM yX10_compared cX10_compared 4 (some .int) (2 + n) [.inr (.inr (0, 0))] σ (some (.inl R.1)) R.2) ∧ (∀ (σ : ab_S), ∀ (R : (Int32 × ab_S)), rc2 σ = some R → ab_M l yM yX10_either cX10_either 3 (some .int) (2 + n) [.inr (.inr (0, 0))] σ (some (.inl R.1)) R.2) ∧ (∀ (σ : ab_S), ∀ (R : (Int32 × ab_S)), rc3 σ = some R → ab_M l yM yX10_one cX10_one 5 (some .int) (2 + n) [.inr (.inr (0, 0))] σ (some (.inl R.1)) R.2) ∧ (∀ (σ : ab_S), ∀ (R : (Int32 × ab_S)), rc4 σ = some R → ab_M l yM yX10_product cX10_product 4 (some .int) (2 + n) [.inr (.inr (0, 0))] σ (some (.inl R.1)) R.2) ∧ (∀ (σ : ab_S), ∀ (R : (Int32 × ab_S)), rc5 σ = some R → ab_M l yM yX10_sums cX10_sums 4 (some .int) (2 + n) [.inr (.inr (0, 0))] σ (some (.inl R.1)) R.2)) {kk5 : Int32 → ab_S → Option (Int32 × ab_S)} (hk5 : ∀ (v1 : Int32) (σ : ab_S), kk5 v1 σ = some R → ab_G yM p l e s m args below meth c D cA ad 4 (2 + n + 1) (some (.inl R.1)) R.2 5 [some (.inr (.inr (0, 0))), some (.inl v1), none, none] [] σ) (v1 : Int32) (σ : ab_S) (h : fX10_sums_b5_o rc0 rc1 rc2 rc3 rc4 rc5 kk5 v1 σ = some R) : ab_G yM p l e s m args below meth c D cA ad 4 (2 + n + 1) (some (.inl R.1)) R.2 5 [some (.inr (.inr (0, 0))), some (.inl v1), none, none] [] σ := by
  refine ab_aload_n C dX10_sums_5 rfl ?_
  refine ab_getI C dX10_sums_6 flX10_163 rkM_0 rfl mmM_0 ?_
  refine ab_if_ge C (tgt := 77) dX10_sums_9 (by decide) (fun hc1 => ?_) (fun hc1 => ?_)
  · replace h := ab_pos hc1 h
    refine ab_weak (lv' := [none, some (.inl v1), none, none]) ⟨.inl rfl, ⟨.inr rfl, ⟨.inl rfl, ⟨.inl rfl, trivial⟩⟩⟩⟩ ?_
    exact gX10_sums_b77 C hrec _ _ h
  · replace h := ab_neg hc1 h
    refine ab_aload_n C dX10_sums_12 rfl ?_
    obtain ⟨q2, hq2, h⟩ := ab_bind h
    refine ab_inv1 C dX10_sums_13 mlX10_166 yvX10_byteAt rkM_0 ⟨_, _, rfl⟩ mmM_0 (tX10_byteAt l _ hq2) (by omega) (Nat.le_of_ble_eq_true rfl) rfl (Nat.le_of_ble_eq_true rfl) ?_
    refine ab_bipush C dX10_sums_16 (v := 43) rfl ?_
    refine ab_icmp_eq C (tgt := 30) dX10_sums_18 (by decide) (fun hc3 => ?_) (fun hc3 => ?_)
    · replace h := ab_pos hc3 h
      refine ab_weak (lv' := [some (.inr (.inr (0, 0))), some (.inl v1), none, none]) ⟨.inr rfl, ⟨.inr rfl, ⟨.inl rfl, ⟨.inl rfl, trivial⟩⟩⟩⟩ ?_
      exact gX10_sums_b30 C hrec hk5 _ _ h
    · replace h := ab_neg hc3 h
      refine ab_aload_n C dX10_sums_21 rfl ?_
      obtain ⟨q4, hq4, h⟩ := ab_bind h
      refine ab_inv1 C dX10_sums_22 mlX10_166 yvX10_byteAt rkM_0 ⟨_, _, rfl⟩ mmM_0 (tX10_byteAt l _ hq4) (by omega) (Nat.le_of_ble_eq_true rfl) rfl (Nat.le_of_ble_eq_true rfl) ?_
      refine ab_bipush C dX10_sums_25 (v := 45) rfl ?_
      refine ab_icmp_ne C (tgt := 77) dX10_sums_27 (by decide) (fun hc5 => ?_) (fun hc5 => ?_)
      · replace h := ab_neg hc5 h
        refine ab_weak (lv' := [none, some (.inl v1), none, none]) ⟨.inl rfl, ⟨.inr rfl, ⟨.inl rfl, ⟨.inl rfl, trivial⟩⟩⟩⟩ ?_
        exact gX10_sums_b77 C hrec _ _ h
      · replace h := ab_pos hc5 h
        refine ab_weak (lv' := [some (.inr (.inr (0, 0))), some (.inl v1), none, none]) ⟨.inr rfl, ⟨.inr rfl, ⟨.inl rfl, ⟨.inl rfl, trivial⟩⟩⟩⟩ ?_
        exact gX10_sums_b30 C hrec hk5 _ _ h
theorem gX10_sums_b5 {n : Nat} {R : (Int32 × ab_S)} {rc0 : ab_S → Option (Int32 × ab_S)} {rc1 : ab_S → Option (Int32 × ab_S)} {rc2 : ab_S → Option (Int32 × ab_S)} {rc3 : ab_S → Option (Int32 × ab_S)} {rc4 : ab_S → Option (Int32 × ab_S)} {rc5 : ab_S → Option (Int32 × ab_S)} (C : ab_C yM p s m args meth c D cA ad cX10_sums 4 RX10 (some .int)) (hrec : (∀ (σ : ab_S), ∀ (R : (Int32 × ab_S)), rc0 σ = some R → ab_M l yM yX10_both cX10_both 3 (some .int) (2 + n) [.inr (.inr (0, 0))] σ (some (.inl R.1)) R.2) ∧ (∀ (σ : ab_S), ∀ (R : (Int32 × ab_S)), rc1 σ = some R → ab_M l yM yX10_compared cX10_compared 4 (some .int) (2 + n) [.inr (.inr (0, 0))] σ (some (.inl R.1)) R.2) ∧ (∀ (σ : ab_S), ∀ (R : (Int32 × ab_S)), rc2 σ = some R → ab_M l yM yX10_either cX10_either 3 (some .int) (2 + n) [.inr (.inr (0, 0))] σ (some (.inl R.1)) R.2) ∧ (∀ (σ : ab_S), ∀ (R : (Int32 × ab_S)), rc3 σ = some R → ab_M l yM yX10_one cX10_one 5 (some .int) (2 + n) [.inr (.inr (0, 0))] σ (some (.inl R.1)) R.2) ∧ (∀ (σ : ab_S), ∀ (R : (Int32 × ab_S)), rc4 σ = some R → ab_M l yM yX10_product cX10_product 4 (some .int) (2 + n) [.inr (.inr (0, 0))] σ (some (.inl R.1)) R.2) ∧ (∀ (σ : ab_S), ∀ (R : (Int32 × ab_S)), rc5 σ = some R → ab_M l yM yX10_sums cX10_sums 4 (some .int) (2 + n) [.inr (.inr (0, 0))] σ (some (.inl R.1)) R.2)) : ∀ (j : Nat) (v1 : Int32) (σ : ab_S), fX10_sums_b5 rc0 rc1 rc2 rc3 rc4 rc5 j v1 σ = some R → ab_G yM p l e s m args below meth c D cA ad 4 (2 + n + 1) (some (.inl R.1)) R.2 5 [some (.inr (.inr (0, 0))), some (.inl v1), none, none] [] σ := by
  intro j
  induction j with
  | zero => intro v1 σ  h; cases h
  | succ j ih => intro v1 σ  h; exact gX10_sums_b5_o C hrec ih _ _ h
set_option maxRecDepth 100000 in
set_option maxHeartbeats 4000000 in
theorem tX10_sums_o (l : Launch) {n : Nat} {rc0 : ab_S → Option (Int32 × ab_S)} {rc1 : ab_S → Option (Int32 × ab_S)} {rc2 : ab_S → Option (Int32 × ab_S)} {rc3 : ab_S → Option (Int32 × ab_S)} {rc4 : ab_S → Option (Int32 × ab_S)} {rc5 : ab_S → Option (Int32 × ab_S)} (hrec : (∀ (σ : ab_S), ∀ (R : (Int32 × ab_S)), rc0 σ = some R → ab_M l yM yX10_both cX10_both 3 (some .int) (2 + n) [.inr (.inr (0, 0))] σ (some (.inl R.1)) R.2) ∧ (∀ (σ : ab_S), ∀ (R : (Int32 × ab_S)), rc1 σ = some R → ab_M l yM yX10_compared cX10_compared 4 (some .int) (2 + n) [.inr (.inr (0, 0))] σ (some (.inl R.1)) R.2) ∧ (∀ (σ : ab_S), ∀ (R : (Int32 × ab_S)), rc2 σ = some R → ab_M l yM yX10_either cX10_either 3 (some .int) (2 + n) [.inr (.inr (0, 0))] σ (some (.inl R.1)) R.2) ∧ (∀ (σ : ab_S), ∀ (R : (Int32 × ab_S)), rc3 σ = some R → ab_M l yM yX10_one cX10_one 5 (some .int) (2 + n) [.inr (.inr (0, 0))] σ (some (.inl R.1)) R.2) ∧ (∀ (σ : ab_S), ∀ (R : (Int32 × ab_S)), rc4 σ = some R → ab_M l yM yX10_product cX10_product 4 (some .int) (2 + n) [.inr (.inr (0, 0))] σ (some (.inl R.1)) R.2) ∧ (∀ (σ : ab_S), ∀ (R : (Int32 × ab_S)), rc5 σ = some R → ab_M l yM yX10_sums cX10_sums 4 (some .int) (2 + n) [.inr (.inr (0, 0))] σ (some (.inl R.1)) R.2)) (σ : ab_S) {R : (Int32 × ab_S)} (h : fX10_sums_o rc0 rc1 rc2 rc3 rc4 rc5 σ = some R) : ab_M l yM yX10_sums cX10_sums 4 (some .int) (2 + n + 1) [.inr (.inr (0, 0))] σ (some (.inl R.1)) R.2 := by
  refine ab_M_intro ndM (by decide) (Nat.le_of_ble_eq_true rfl) ?_
  intro p e s m args below meth c D cA ad C
  have C : ab_C yM p s m args meth c D cA ad cX10_sums 4 RX10 (some .int) := C
  refine ab_weak (lv' := [some (.inr (.inr (0, 0))), none, none, none]) ⟨.inr rfl, ⟨.inl rfl, ⟨.inl rfl, ⟨.inl rfl, trivial⟩⟩⟩⟩ ?_
  refine ab_aload_n C dX10_sums_0 rfl ?_
  obtain ⟨q1, hq1, h⟩ := ab_bind h
  refine ab_inv1 C dX10_sums_1 mlX10_181 yvX10_product rkM_0 ⟨_, _, rfl⟩ mmM_0 (hrec.2.2.2.2.1 _ _ hq1) (by omega) (Nat.le_of_ble_eq_true rfl) rfl (Nat.le_of_ble_eq_true rfl) ?_
  refine ab_istore_n C dX10_sums_4 (Nat.le_of_ble_eq_true rfl) ?_
  refine ab_weak (lv' := [some (.inr (.inr (0, 0))), some (.inl q1.1), none, none]) ⟨.inr rfl, ⟨.inr rfl, ⟨.inl rfl, ⟨.inl rfl, trivial⟩⟩⟩⟩ ?_
  exact gX10_sums_b5 C hrec ab_N _ _ h
end
theorem tzX10_both (l : Launch) : ∀ n : Nat, (∀ (σ : ab_S), ∀ (R : (Int32 × ab_S)), fX10_both n σ = some R → ab_M l yM yX10_both cX10_both 3 (some .int) (2 + n) [.inr (.inr (0, 0))] σ (some (.inl R.1)) R.2) ∧ (∀ (σ : ab_S), ∀ (R : (Int32 × ab_S)), fX10_compared n σ = some R → ab_M l yM yX10_compared cX10_compared 4 (some .int) (2 + n) [.inr (.inr (0, 0))] σ (some (.inl R.1)) R.2) ∧ (∀ (σ : ab_S), ∀ (R : (Int32 × ab_S)), fX10_either n σ = some R → ab_M l yM yX10_either cX10_either 3 (some .int) (2 + n) [.inr (.inr (0, 0))] σ (some (.inl R.1)) R.2) ∧ (∀ (σ : ab_S), ∀ (R : (Int32 × ab_S)), fX10_one n σ = some R → ab_M l yM yX10_one cX10_one 5 (some .int) (2 + n) [.inr (.inr (0, 0))] σ (some (.inl R.1)) R.2) ∧ (∀ (σ : ab_S), ∀ (R : (Int32 × ab_S)), fX10_product n σ = some R → ab_M l yM yX10_product cX10_product 4 (some .int) (2 + n) [.inr (.inr (0, 0))] σ (some (.inl R.1)) R.2) ∧ (∀ (σ : ab_S), ∀ (R : (Int32 × ab_S)), fX10_sums n σ = some R → ab_M l yM yX10_sums cX10_sums 4 (some .int) (2 + n) [.inr (.inr (0, 0))] σ (some (.inl R.1)) R.2) := by
  intro n
  induction n with
  | zero => exact ⟨fun _ _ h => (by cases h), fun _ _ h => (by cases h), fun _ _ h => (by cases h), fun _ _ h => (by cases h), fun _ _ h => (by cases h), fun _ _ h => (by cases h)⟩
  | succ n ih => exact ⟨fun a0 R h => tX10_both_o l ih a0 h, fun a0 R h => tX10_compared_o l ih a0 h, fun a0 R h => tX10_either_o l ih a0 h, fun a0 R h => tX10_one_o l ih a0 h, fun a0 R h => tX10_product_o l ih a0 h, fun a0 R h => tX10_sums_o l ih a0 h⟩
theorem tX10_both (n : Nat) (l : Launch) (σ : ab_S) {R : (Int32 × ab_S)} (h : fX10_both n σ = some R) : ab_M l yM yX10_both cX10_both 3 (some .int) (2 + n) [.inr (.inr (0, 0))] σ (some (.inl R.1)) R.2 := (tzX10_both l n).1 σ  R h
theorem tX10_compared (n : Nat) (l : Launch) (σ : ab_S) {R : (Int32 × ab_S)} (h : fX10_compared n σ = some R) : ab_M l yM yX10_compared cX10_compared 4 (some .int) (2 + n) [.inr (.inr (0, 0))] σ (some (.inl R.1)) R.2 := (tzX10_both l n).2.1 σ  R h
theorem tX10_either (n : Nat) (l : Launch) (σ : ab_S) {R : (Int32 × ab_S)} (h : fX10_either n σ = some R) : ab_M l yM yX10_either cX10_either 3 (some .int) (2 + n) [.inr (.inr (0, 0))] σ (some (.inl R.1)) R.2 := (tzX10_both l n).2.2.1 σ  R h
theorem tX10_one (n : Nat) (l : Launch) (σ : ab_S) {R : (Int32 × ab_S)} (h : fX10_one n σ = some R) : ab_M l yM yX10_one cX10_one 5 (some .int) (2 + n) [.inr (.inr (0, 0))] σ (some (.inl R.1)) R.2 := (tzX10_both l n).2.2.2.1 σ  R h
theorem tX10_product (n : Nat) (l : Launch) (σ : ab_S) {R : (Int32 × ab_S)} (h : fX10_product n σ = some R) : ab_M l yM yX10_product cX10_product 4 (some .int) (2 + n) [.inr (.inr (0, 0))] σ (some (.inl R.1)) R.2 := (tzX10_both l n).2.2.2.2.1 σ  R h
theorem tX10_sums (n : Nat) (l : Launch) (σ : ab_S) {R : (Int32 × ab_S)} (h : fX10_sums n σ = some R) : ab_M l yM yX10_sums cX10_sums 4 (some .int) (2 + n) [.inr (.inr (0, 0))] σ (some (.inl R.1)) R.2 := (tzX10_both l n).2.2.2.2.2 σ  R h
def fX10_workOut_b130 (v4 : Int32) (σ : ab_S) : Option (Int32 × ab_S) := some (v4, σ)
def fX10_workOut_b96 (kk33 : Int32 → Int32 → Int32 → ab_S → Option (Int32 × ab_S)) (v3 : Int32) (v4 : Int32) (σ : ab_S) : Option (Int32 × ab_S) := (fX10_takes 59 σ).bind fun q1 => kk33 v3 v4 q1.1 q1.2
def fX10_workOut_b74 (kk33 : Int32 → Int32 → Int32 → ab_S → Option (Int32 × ab_S)) (v3 : Int32) (v4 : Int32) (v6 : Int32) (v7 : Int32) (σ : ab_S) : Option (Int32 × ab_S) := (if 0 ≤ (σ.1 0 0 20) then fX10_workOut_b96 kk33 v3 v4 σ else (if v7 = 0 then fX10_workOut_b96 kk33 v3 v4 σ else (if v3 = 0 then fX10_workOut_b96 kk33 1 v6 σ else fX10_workOut_b96 kk33 v3 v4 σ)))
def fX10_workOut_b66 (kk33 : Int32 → Int32 → Int32 → ab_S → Option (Int32 × ab_S)) (v3 : Int32) (v4 : Int32) (t0 : Int32) (σ : ab_S) : Option (Int32 × ab_S) := ((fX10_either 64) σ).bind fun q1 => fX10_workOut_b74 kk33 v3 v4 q1.1 t0 q1.2
def fX10_workOut_b33_o (kk33 : Int32 → Int32 → Int32 → ab_S → Option (Int32 × ab_S)) (v3 : Int32) (v4 : Int32) (v5 : Int32) (σ : ab_S) : Option (Int32 × ab_S) := (if v5 = 0 then (if 0 ≤ (σ.1 0 0 20) then fX10_workOut_b130 v4 σ else (if (σ.1 0 0 19) ≤ (σ.1 0 0 18) then fX10_workOut_b130 v4 σ else (fX10_wrong σ).bind fun q4 => some (q4.1, q4.2))) else ((fX10_either 64) σ).bind fun q5 => (fX10_takes 63 q5.2).bind fun q6 => (if q6.1 = 0 then fX10_workOut_b74 kk33 v3 v4 q5.1 1 q6.2 else (if q5.1 = 0 then fX10_workOut_b66 kk33 v3 v4 0 q6.2 else fX10_workOut_b66 kk33 v3 v4 1 q6.2)))
def fX10_workOut_b33 : Nat → Int32 → Int32 → Int32 → ab_S → Option (Int32 × ab_S)
  | 0 => fun _ _ _ _ => none
  | n + 1 => fX10_workOut_b33_o  (fX10_workOut_b33 n)
def fX10_workOut (x1 : Int32) (x2 : Int32) (σ : ab_S) : Option (Int32 × ab_S) := ab_k (ab_si σ 0 0 17 x1) fun σ1 => ab_k (ab_si σ1 0 0 18 0) fun σ2 => ab_k (ab_si σ2 0 0 19 x2) fun σ3 => ab_k (ab_si σ3 0 0 20 ((-1))) fun σ4 => ab_k (ab_si σ4 0 0 21 0) fun σ5 => fX10_workOut_b33 ab_N 0 0 1 σ5
section
variable {p : Program} {l : Launch} {e : Env} {s : State} {m : MethodId} {args : Array Value} {below : List Frame} {meth : Method} {c : Code} {D : va_G} {cA : Nat → ClassId} {ad : Nat → Nat → Nat}
set_option maxRecDepth 100000 in
set_option maxHeartbeats 4000000 in
theorem gX10_workOut_b130 {R : (Int32 × ab_S)} (C : ab_C yM p s m args meth c D cA ad cX10_workOut 8 RX10 (some .int)) (v4 : Int32) (σ : ab_S) (h : fX10_workOut_b130 v4 σ = some R) : ab_G yM p l e s m args below meth c D cA ad 8 67 (some (.inl R.1)) R.2 130 [none, none, none, none, some (.inl v4), none, none, none] [] σ := by
  refine ab_iload C dX10_workOut_130 rfl ?_
  obtain rfl := Option.some.inj h
  exact ab_iret C dX10_workOut_132
set_option maxRecDepth 100000 in
set_option maxHeartbeats 4000000 in
theorem gX10_workOut_b96 {R : (Int32 × ab_S)} (C : ab_C yM p s m args meth c D cA ad cX10_workOut 8 RX10 (some .int)) {kk33 : Int32 → Int32 → Int32 → ab_S → Option (Int32 × ab_S)} (hk33 : ∀ (v3 : Int32) (v4 : Int32) (v5 : Int32) (σ : ab_S), kk33 v3 v4 v5 σ = some R → ab_G yM p l e s m args below meth c D cA ad 8 67 (some (.inl R.1)) R.2 33 [some (.inr (.inr (0, 0))), none, none, some (.inl v3), some (.inl v4), some (.inl v5), none, none] [] σ) (v3 : Int32) (v4 : Int32) (σ : ab_S) (h : fX10_workOut_b96 kk33 v3 v4 σ = some R) : ab_G yM p l e s m args below meth c D cA ad 8 67 (some (.inl R.1)) R.2 96 [some (.inr (.inr (0, 0))), none, none, some (.inl v3), some (.inl v4), none, none, none] [] σ := by
  refine ab_aload_n C dX10_workOut_96 rfl ?_
  refine ab_bipush C dX10_workOut_97 (v := 59) rfl ?_
  obtain ⟨q1, hq1, h⟩ := ab_bind h
  refine ab_inv1 C dX10_workOut_99 mlX10_172 yvX10_takes rkM_0 ⟨_, _, rfl⟩ mmM_0 (tX10_takes l _ _ hq1) (Nat.le_of_ble_eq_true rfl) (Nat.le_of_ble_eq_true rfl) rfl (Nat.le_of_ble_eq_true rfl) ?_
  refine ab_istore C dX10_workOut_102 (Nat.le_of_ble_eq_true rfl) ?_
  refine ab_goto C (tgt := 33) dX10_workOut_104 (by decide) ?_
  refine ab_weak (lv' := [some (.inr (.inr (0, 0))), none, none, some (.inl v3), some (.inl v4), some (.inl q1.1), none, none]) ⟨.inr rfl, ⟨.inl rfl, ⟨.inl rfl, ⟨.inr rfl, ⟨.inr rfl, ⟨.inr rfl, ⟨.inl rfl, ⟨.inl rfl, trivial⟩⟩⟩⟩⟩⟩⟩⟩ ?_
  exact hk33 _ _ _ _ h
set_option maxRecDepth 100000 in
set_option maxHeartbeats 4000000 in
theorem gX10_workOut_b74 {R : (Int32 × ab_S)} (C : ab_C yM p s m args meth c D cA ad cX10_workOut 8 RX10 (some .int)) {kk33 : Int32 → Int32 → Int32 → ab_S → Option (Int32 × ab_S)} (hk33 : ∀ (v3 : Int32) (v4 : Int32) (v5 : Int32) (σ : ab_S), kk33 v3 v4 v5 σ = some R → ab_G yM p l e s m args below meth c D cA ad 8 67 (some (.inl R.1)) R.2 33 [some (.inr (.inr (0, 0))), none, none, some (.inl v3), some (.inl v4), some (.inl v5), none, none] [] σ) (v3 : Int32) (v4 : Int32) (v6 : Int32) (v7 : Int32) (σ : ab_S) (h : fX10_workOut_b74 kk33 v3 v4 v6 v7 σ = some R) : ab_G yM p l e s m args below meth c D cA ad 8 67 (some (.inl R.1)) R.2 74 [some (.inr (.inr (0, 0))), none, none, some (.inl v3), some (.inl v4), none, some (.inl v6), some (.inl v7)] [] σ := by
  refine ab_aload_n C dX10_workOut_74 rfl ?_
  refine ab_getI C dX10_workOut_75 flX10_163 rkM_0 rfl mmM_0 ?_
  refine ab_if_ge C (tgt := 96) dX10_workOut_78 (by decide) (fun hc1 => ?_) (fun hc1 => ?_)
  · replace h := ab_pos hc1 h
    refine ab_weak (lv' := [some (.inr (.inr (0, 0))), none, none, some (.inl v3), some (.inl v4), none, none, none]) ⟨.inr rfl, ⟨.inl rfl, ⟨.inl rfl, ⟨.inr rfl, ⟨.inr rfl, ⟨.inl rfl, ⟨.inl rfl, ⟨.inl rfl, trivial⟩⟩⟩⟩⟩⟩⟩⟩ ?_
    exact gX10_workOut_b96 C hk33 _ _ _ h
  · replace h := ab_neg hc1 h
    refine ab_iload C dX10_workOut_81 rfl ?_
    refine ab_if_eq C (tgt := 96) dX10_workOut_83 (by decide) (fun hc2 => ?_) (fun hc2 => ?_)
    · replace h := ab_pos hc2 h
      refine ab_weak (lv' := [some (.inr (.inr (0, 0))), none, none, some (.inl v3), some (.inl v4), none, none, none]) ⟨.inr rfl, ⟨.inl rfl, ⟨.inl rfl, ⟨.inr rfl, ⟨.inr rfl, ⟨.inl rfl, ⟨.inl rfl, ⟨.inl rfl, trivial⟩⟩⟩⟩⟩⟩⟩⟩ ?_
      exact gX10_workOut_b96 C hk33 _ _ _ h
    · replace h := ab_neg hc2 h
      refine ab_iload_n C dX10_workOut_86 rfl ?_
      refine ab_if_ne C (tgt := 96) dX10_workOut_87 (by decide) (fun hc3 => ?_) (fun hc3 => ?_)
      · replace h := ab_neg hc3 h
        refine ab_weak (lv' := [some (.inr (.inr (0, 0))), none, none, some (.inl v3), some (.inl v4), none, none, none]) ⟨.inr rfl, ⟨.inl rfl, ⟨.inl rfl, ⟨.inr rfl, ⟨.inr rfl, ⟨.inl rfl, ⟨.inl rfl, ⟨.inl rfl, trivial⟩⟩⟩⟩⟩⟩⟩⟩ ?_
        exact gX10_workOut_b96 C hk33 _ _ _ h
      · replace h := ab_pos hc3 h
        refine ab_iconst C dX10_workOut_90 (v := 1) rfl ?_
        refine ab_istore_n C dX10_workOut_91 (Nat.le_of_ble_eq_true rfl) ?_
        refine ab_iload C dX10_workOut_92 rfl ?_
        refine ab_istore C dX10_workOut_94 (Nat.le_of_ble_eq_true rfl) ?_
        refine ab_weak (lv' := [some (.inr (.inr (0, 0))), none, none, some (.inl 1), some (.inl v6), none, none, none]) ⟨.inr rfl, ⟨.inl rfl, ⟨.inl rfl, ⟨.inr rfl, ⟨.inr rfl, ⟨.inl rfl, ⟨.inl rfl, ⟨.inl rfl, trivial⟩⟩⟩⟩⟩⟩⟩⟩ ?_
        exact gX10_workOut_b96 C hk33 _ _ _ h
set_option maxRecDepth 100000 in
set_option maxHeartbeats 4000000 in
theorem gX10_workOut_b66 {R : (Int32 × ab_S)} (C : ab_C yM p s m args meth c D cA ad cX10_workOut 8 RX10 (some .int)) {kk33 : Int32 → Int32 → Int32 → ab_S → Option (Int32 × ab_S)} (hk33 : ∀ (v3 : Int32) (v4 : Int32) (v5 : Int32) (σ : ab_S), kk33 v3 v4 v5 σ = some R → ab_G yM p l e s m args below meth c D cA ad 8 67 (some (.inl R.1)) R.2 33 [some (.inr (.inr (0, 0))), none, none, some (.inl v3), some (.inl v4), some (.inl v5), none, none] [] σ) (v3 : Int32) (v4 : Int32) (t0 : Int32) (σ : ab_S) (h : fX10_workOut_b66 kk33 v3 v4 t0 σ = some R) : ab_G yM p l e s m args below meth c D cA ad 8 67 (some (.inl R.1)) R.2 66 [some (.inr (.inr (0, 0))), none, none, some (.inl v3), some (.inl v4), none, none, none] [.inl t0] σ := by
  refine ab_istore C dX10_workOut_66 (Nat.le_of_ble_eq_true rfl) ?_
  refine ab_aload_n C dX10_workOut_68 rfl ?_
  obtain ⟨q1, hq1, h⟩ := ab_bind h
  refine ab_inv1 C dX10_workOut_69 mlX10_193 yvX10_either rkM_0 ⟨_, _, rfl⟩ mmM_0 (tX10_either 64 l _ hq1) (Nat.le_of_ble_eq_true rfl) (Nat.le_of_ble_eq_true rfl) rfl (Nat.le_of_ble_eq_true rfl) ?_
  refine ab_istore C dX10_workOut_72 (Nat.le_of_ble_eq_true rfl) ?_
  refine ab_weak (lv' := [some (.inr (.inr (0, 0))), none, none, some (.inl v3), some (.inl v4), none, some (.inl q1.1), some (.inl t0)]) ⟨.inr rfl, ⟨.inl rfl, ⟨.inl rfl, ⟨.inr rfl, ⟨.inr rfl, ⟨.inl rfl, ⟨.inr rfl, ⟨.inr rfl, trivial⟩⟩⟩⟩⟩⟩⟩⟩ ?_
  exact gX10_workOut_b74 C hk33 _ _ _ _ _ h
set_option maxRecDepth 100000 in
set_option maxHeartbeats 4000000 in
theorem gX10_workOut_b33_o {R : (Int32 × ab_S)} (C : ab_C yM p s m args meth c D cA ad cX10_workOut 8 RX10 (some .int)) {kk33 : Int32 → Int32 → Int32 → ab_S → Option (Int32 × ab_S)} (hk33 : ∀ (v3 : Int32) (v4 : Int32) (v5 : Int32) (σ : ab_S), kk33 v3 v4 v5 σ = some R → ab_G yM p l e s m args below meth c D cA ad 8 67 (some (.inl R.1)) R.2 33 [some (.inr (.inr (0, 0))), none, none, some (.inl v3), some (.inl v4), some (.inl v5), none, none] [] σ) (v3 : Int32) (v4 : Int32) (v5 : Int32) (σ : ab_S) (h : fX10_workOut_b33_o kk33 v3 v4 v5 σ = some R) : ab_G yM p l e s m args below meth c D cA ad 8 67 (some (.inl R.1)) R.2 33 [some (.inr (.inr (0, 0))), none, none, some (.inl v3), some (.inl v4), some (.inl v5), none, none] [] σ := by
  refine ab_iload C dX10_workOut_33 rfl ?_
  refine ab_if_eq C (tgt := 107) dX10_workOut_35 (by decide) (fun hc1 => ?_) (fun hc1 => ?_)
  · replace h := ab_pos hc1 h
    refine ab_aload_n C dX10_workOut_107 rfl ?_
    refine ab_getI C dX10_workOut_108 flX10_163 rkM_0 rfl mmM_0 ?_
    refine ab_if_ge C (tgt := 130) dX10_workOut_111 (by decide) (fun hc2 => ?_) (fun hc2 => ?_)
    · replace h := ab_pos hc2 h
      refine ab_weak (lv' := [none, none, none, none, some (.inl v4), none, none, none]) ⟨.inl rfl, ⟨.inl rfl, ⟨.inl rfl, ⟨.inl rfl, ⟨.inr rfl, ⟨.inl rfl, ⟨.inl rfl, ⟨.inl rfl, trivial⟩⟩⟩⟩⟩⟩⟩⟩ ?_
      exact gX10_workOut_b130 C _ _ h
    · replace h := ab_neg hc2 h
      refine ab_aload_n C dX10_workOut_114 rfl ?_
      refine ab_getI C dX10_workOut_115 flX10_154 rkM_0 rfl mmM_0 ?_
      refine ab_aload_n C dX10_workOut_118 rfl ?_
      refine ab_getI C dX10_workOut_119 flX10_157 rkM_0 rfl mmM_0 ?_
      refine ab_icmp_ge C (tgt := 130) dX10_workOut_122 (by decide) (fun hc3 => ?_) (fun hc3 => ?_)
      · replace h := ab_pos hc3 h
        refine ab_weak (lv' := [none, none, none, none, some (.inl v4), none, none, none]) ⟨.inl rfl, ⟨.inl rfl, ⟨.inl rfl, ⟨.inl rfl, ⟨.inr rfl, ⟨.inl rfl, ⟨.inl rfl, ⟨.inl rfl, trivial⟩⟩⟩⟩⟩⟩⟩⟩ ?_
        exact gX10_workOut_b130 C _ _ h
      · replace h := ab_neg hc3 h
        refine ab_aload_n C dX10_workOut_125 rfl ?_
        obtain ⟨q4, hq4, h⟩ := ab_bind h
        refine ab_inv1 C dX10_workOut_126 mlX10_190 yvX10_wrong rkM_0 ⟨_, _, rfl⟩ mmM_0 (tX10_wrong l _ hq4) (Nat.le_of_ble_eq_true rfl) (Nat.le_of_ble_eq_true rfl) rfl (Nat.le_of_ble_eq_true rfl) ?_
        obtain rfl := Option.some.inj h
        exact ab_iret C dX10_workOut_129
  · replace h := ab_neg hc1 h
    refine ab_aload_n C dX10_workOut_38 rfl ?_
    obtain ⟨q5, hq5, h⟩ := ab_bind h
    refine ab_inv1 C dX10_workOut_39 mlX10_193 yvX10_either rkM_0 ⟨_, _, rfl⟩ mmM_0 (tX10_either 64 l _ hq5) (Nat.le_of_ble_eq_true rfl) (Nat.le_of_ble_eq_true rfl) rfl (Nat.le_of_ble_eq_true rfl) ?_
    refine ab_istore C dX10_workOut_42 (Nat.le_of_ble_eq_true rfl) ?_
    refine ab_iconst C dX10_workOut_44 (v := 1) rfl ?_
    refine ab_istore C dX10_workOut_45 (Nat.le_of_ble_eq_true rfl) ?_
    refine ab_aload_n C dX10_workOut_47 rfl ?_
    refine ab_bipush C dX10_workOut_48 (v := 63) rfl ?_
    obtain ⟨q6, hq6, h⟩ := ab_bind h
    refine ab_inv1 C dX10_workOut_50 mlX10_172 yvX10_takes rkM_0 ⟨_, _, rfl⟩ mmM_0 (tX10_takes l _ _ hq6) (Nat.le_of_ble_eq_true rfl) (Nat.le_of_ble_eq_true rfl) rfl (Nat.le_of_ble_eq_true rfl) ?_
    refine ab_if_eq C (tgt := 74) dX10_workOut_53 (by decide) (fun hc7 => ?_) (fun hc7 => ?_)
    · replace h := ab_pos hc7 h
      refine ab_weak (lv' := [some (.inr (.inr (0, 0))), none, none, some (.inl v3), some (.inl v4), none, some (.inl q5.1), some (.inl 1)]) ⟨.inr rfl, ⟨.inl rfl, ⟨.inl rfl, ⟨.inr rfl, ⟨.inr rfl, ⟨.inl rfl, ⟨.inr rfl, ⟨.inr rfl, trivial⟩⟩⟩⟩⟩⟩⟩⟩ ?_
      exact gX10_workOut_b74 C hk33 _ _ _ _ _ h
    · replace h := ab_neg hc7 h
      refine ab_iload C dX10_workOut_56 rfl ?_
      refine ab_if_eq C (tgt := 65) dX10_workOut_58 (by decide) (fun hc8 => ?_) (fun hc8 => ?_)
      · replace h := ab_pos hc8 h
        refine ab_iconst C dX10_workOut_65 (v := 0) rfl ?_
        refine ab_weak (lv' := [some (.inr (.inr (0, 0))), none, none, some (.inl v3), some (.inl v4), none, none, none]) ⟨.inr rfl, ⟨.inl rfl, ⟨.inl rfl, ⟨.inr rfl, ⟨.inr rfl, ⟨.inl rfl, ⟨.inl rfl, ⟨.inl rfl, trivial⟩⟩⟩⟩⟩⟩⟩⟩ ?_
        exact gX10_workOut_b66 C hk33 _ _ _ _ h
      · replace h := ab_neg hc8 h
        refine ab_iconst C dX10_workOut_61 (v := 1) rfl ?_
        refine ab_goto C (tgt := 66) dX10_workOut_62 (by decide) ?_
        refine ab_weak (lv' := [some (.inr (.inr (0, 0))), none, none, some (.inl v3), some (.inl v4), none, none, none]) ⟨.inr rfl, ⟨.inl rfl, ⟨.inl rfl, ⟨.inr rfl, ⟨.inr rfl, ⟨.inl rfl, ⟨.inl rfl, ⟨.inl rfl, trivial⟩⟩⟩⟩⟩⟩⟩⟩ ?_
        exact gX10_workOut_b66 C hk33 _ _ _ _ h
theorem gX10_workOut_b33 {R : (Int32 × ab_S)} (C : ab_C yM p s m args meth c D cA ad cX10_workOut 8 RX10 (some .int)) : ∀ (j : Nat) (v3 : Int32) (v4 : Int32) (v5 : Int32) (σ : ab_S), fX10_workOut_b33 j v3 v4 v5 σ = some R → ab_G yM p l e s m args below meth c D cA ad 8 67 (some (.inl R.1)) R.2 33 [some (.inr (.inr (0, 0))), none, none, some (.inl v3), some (.inl v4), some (.inl v5), none, none] [] σ := by
  intro j
  induction j with
  | zero => intro v3 v4 v5 σ  h; cases h
  | succ j ih => intro v3 v4 v5 σ  h; exact gX10_workOut_b33_o C ih _ _ _ _ h
set_option maxRecDepth 100000 in
set_option maxHeartbeats 4000000 in
theorem tX10_workOut (l : Launch) (x1 : Int32) (x2 : Int32) (σ : ab_S) {R : (Int32 × ab_S)} (h : fX10_workOut x1 x2 σ = some R) : ab_M l yM yX10_workOut cX10_workOut 8 (some .int) 67 [.inr (.inr (0, 0)), .inl x1, .inl x2] σ (some (.inl R.1)) R.2 := by
  refine ab_M_intro ndM (by decide) (Nat.le_of_ble_eq_true rfl) ?_
  intro p e s m args below meth c D cA ad C
  have C : ab_C yM p s m args meth c D cA ad cX10_workOut 8 RX10 (some .int) := C
  refine ab_weak (lv' := [some (.inr (.inr (0, 0))), some (.inl x1), some (.inl x2), none, none, none, none, none]) ⟨.inr rfl, ⟨.inr rfl, ⟨.inr rfl, ⟨.inl rfl, ⟨.inl rfl, ⟨.inl rfl, ⟨.inl rfl, ⟨.inl rfl, trivial⟩⟩⟩⟩⟩⟩⟩⟩ ?_
  refine ab_aload_n C dX10_workOut_0 rfl ?_
  refine ab_iload_n C dX10_workOut_1 rfl ?_
  refine ab_putI C dX10_workOut_2 fpX10_160 rkM_0 rfl mmM_0 rfl rfl ?_
  refine ab_nmS (fun σ1 eσ1 => ?_)
  replace h := ab_kh eσ1 h
  refine ab_aload_n C dX10_workOut_5 rfl ?_
  refine ab_iconst C dX10_workOut_6 (v := 0) rfl ?_
  refine ab_putI C dX10_workOut_7 fpX10_154 rkM_0 rfl mmM_0 rfl rfl ?_
  refine ab_nmS (fun σ2 eσ2 => ?_)
  replace h := ab_kh eσ2 h
  refine ab_aload_n C dX10_workOut_10 rfl ?_
  refine ab_iload_n C dX10_workOut_11 rfl ?_
  refine ab_putI C dX10_workOut_12 fpX10_157 rkM_0 rfl mmM_0 rfl rfl ?_
  refine ab_nmS (fun σ3 eσ3 => ?_)
  replace h := ab_kh eσ3 h
  refine ab_aload_n C dX10_workOut_15 rfl ?_
  refine ab_iconst C dX10_workOut_16 (v := (-1)) rfl ?_
  refine ab_putI C dX10_workOut_17 fpX10_163 rkM_0 rfl mmM_0 rfl rfl ?_
  refine ab_nmS (fun σ4 eσ4 => ?_)
  replace h := ab_kh eσ4 h
  refine ab_aload_n C dX10_workOut_20 rfl ?_
  refine ab_iconst C dX10_workOut_21 (v := 0) rfl ?_
  refine ab_putI C dX10_workOut_22 fpX10_187 rkM_0 rfl mmM_0 rfl rfl ?_
  refine ab_nmS (fun σ5 eσ5 => ?_)
  replace h := ab_kh eσ5 h
  refine ab_iconst C dX10_workOut_25 (v := 0) rfl ?_
  refine ab_istore_n C dX10_workOut_26 (Nat.le_of_ble_eq_true rfl) ?_
  refine ab_iconst C dX10_workOut_27 (v := 0) rfl ?_
  refine ab_istore C dX10_workOut_28 (Nat.le_of_ble_eq_true rfl) ?_
  refine ab_iconst C dX10_workOut_30 (v := 1) rfl ?_
  refine ab_istore C dX10_workOut_31 (Nat.le_of_ble_eq_true rfl) ?_
  refine ab_weak (lv' := [some (.inr (.inr (0, 0))), some (.inl x1), some (.inl x2), some (.inl 0), some (.inl 0), some (.inl 1), none, none]) ⟨.inr rfl, ⟨.inr rfl, ⟨.inr rfl, ⟨.inr rfl, ⟨.inr rfl, ⟨.inr rfl, ⟨.inl rfl, ⟨.inl rfl, trivial⟩⟩⟩⟩⟩⟩⟩⟩ ?_
  refine ab_weak (lv' := [some (.inr (.inr (0, 0))), none, none, some (.inl 0), some (.inl 0), some (.inl 1), none, none]) ⟨.inr rfl, ⟨.inl rfl, ⟨.inl rfl, ⟨.inr rfl, ⟨.inr rfl, ⟨.inr rfl, ⟨.inl rfl, ⟨.inl rfl, trivial⟩⟩⟩⟩⟩⟩⟩⟩ ?_
  exact gX10_workOut_b33 C ab_N _ _ _ _ h
end
