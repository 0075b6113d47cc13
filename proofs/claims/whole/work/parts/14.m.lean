def fX6_set_b36 (σ : ab_S) : Option ab_S := some σ
def fX6_set (x1 : Int32) (x2 : Int32) (x3 : Int64) (σ : ab_S) : Option ab_S := (fX6_isRow x1 σ).bind fun q1 => (if q1 = 0 then fX6_set_b36 σ else (fX6_hasPlaces x1 x2 1 σ).bind fun q3 => (if q3 = 0 then fX6_set_b36 σ else (if ab_inb x1 6 = true then (if ab_inb x1 6 = true then (fX6_lowestBits (σ.1 40 0 x1.toNatClampNeg) x3).bind fun q7 => (if ab_inb x2 60 = true then ab_k (ab_sl σ 43 x1.toNatClampNeg x2.toNatClampNeg q7) fun σ9 => fX6_set_b36 σ9 else none) else none) else none)))
section
variable {p : Program} {l : Launch} {e : Env} {s : State} {m : MethodId} {args : Array Value} {below : List Frame} {meth : Method} {c : Code} {D : va_G} {cA : Nat → ClassId} {ad : Nat → Nat → Nat}
set_option maxRecDepth 100000 in
set_option maxHeartbeats 4000000 in
theorem gX6_set_b36 {R : ab_S} (C : ab_C yC p s m args meth c D cA ad cX6_set 5 RX6 none) (σ : ab_S) (h : fX6_set_b36 σ = some R) : ab_G yC p l e s m args below meth c D cA ad 5 4 none R 36 [none, none, none, none, none] [] σ := by
  obtain rfl := Option.some.inj h
  exact ab_vret C dX6_set_36
set_option maxRecDepth 100000 in
set_option maxHeartbeats 4000000 in
theorem tX6_set (l : Launch) (x1 : Int32) (x2 : Int32) (x3 : Int64) (σ : ab_S) {R : ab_S} (h : fX6_set x1 x2 x3 σ = some R) : ab_M l yC yX6_set cX6_set 5 none 4 [.inr (.inr (39, 0)), .inl x1, .inl x2, .inr (.inl x3)] σ none R := by
  refine ab_M_intro ndC (by decide) (Nat.le_of_ble_eq_true rfl) ?_
  intro p e s m args below meth c D cA ad C
  have C : ab_C yC p s m args meth c D cA ad cX6_set 5 RX6 none := C
  refine ab_weak (lv' := [some (.inr (.inr (39, 0))), some (.inl x1), some (.inl x2), some (.inr (.inl x3)), none]) ⟨.inr rfl, ⟨.inr rfl, ⟨.inr rfl, ⟨.inr rfl, ⟨.inl rfl, trivial⟩⟩⟩⟩⟩ ?_
  refine ab_aload_n C dX6_set_0 rfl ?_
  refine ab_iload_n C dX6_set_1 rfl ?_
  obtain ⟨q1, hq1, h⟩ := ab_bind h
  refine ab_inv1 C dX6_set_2 mlX6_36 yvX6_isRow rkC_39 ⟨_, _, rfl⟩ mmC_39 (tX6_isRow l _ _ hq1) (Nat.le_of_ble_eq_true rfl) (Nat.le_of_ble_eq_true rfl) rfl (Nat.le_of_ble_eq_true rfl) ?_
  refine ab_if_eq C (tgt := 36) dX6_set_5 (by decide) (fun hc2 => ?_) (fun hc2 => ?_)
  · replace h := ab_pos hc2 h
    refine ab_weak (lv' := [none, none, none, none, none]) ⟨.inl rfl, ⟨.inl rfl, ⟨.inl rfl, ⟨.inl rfl, ⟨.inl rfl, trivial⟩⟩⟩⟩⟩ ?_
    exact gX6_set_b36 C _ h
  · replace h := ab_neg hc2 h
    refine ab_aload_n C dX6_set_8 rfl ?_
    refine ab_iload_n C dX6_set_9 rfl ?_
    refine ab_iload_n C dX6_set_10 rfl ?_
    refine ab_iconst C dX6_set_11 (v := 1) rfl ?_
    obtain ⟨q3, hq3, h⟩ := ab_bind h
    refine ab_inv1 C dX6_set_12 mlX6_46 yvX6_hasPlaces rkC_39 ⟨_, _, rfl⟩ mmC_39 (tX6_hasPlaces l _ _ _ _ hq3) (Nat.le_of_ble_eq_true rfl) (Nat.le_of_ble_eq_true rfl) rfl (Nat.le_of_ble_eq_true rfl) ?_
    refine ab_if_eq C (tgt := 36) dX6_set_15 (by decide) (fun hc4 => ?_) (fun hc4 => ?_)
    · replace h := ab_pos hc4 h
      refine ab_weak (lv' := [none, none, none, none, none]) ⟨.inl rfl, ⟨.inl rfl, ⟨.inl rfl, ⟨.inl rfl, ⟨.inl rfl, trivial⟩⟩⟩⟩⟩ ?_
      exact gX6_set_b36 C _ h
    · replace h := ab_neg hc4 h
      refine ab_aload_n C dX6_set_18 rfl ?_
      refine ab_getR C dX6_set_19 flX6_20 rkC_39 rfl mmC_39 ?_
      refine ab_iload_n C dX6_set_22 rfl ?_
      obtain ⟨hg5, h⟩ := ab_grd h
      refine ab_aald4 C dX6_set_23 rkC_42 mmC_42 hg5 ?_
      refine ab_iload_n C dX6_set_24 rfl ?_
      refine ab_aload_n C dX6_set_25 rfl ?_
      refine ab_getR C dX6_set_26 flX6_11 rkC_39 rfl mmC_39 ?_
      refine ab_iload_n C dX6_set_29 rfl ?_
      obtain ⟨hg6, h⟩ := ab_grd h
      refine ab_iald C dX6_set_30 rkC_40 mmC_40 hg6 ?_
      refine ab_lload_n C dX6_set_31 rfl ?_
      obtain ⟨q7, hq7, h⟩ := ab_bind h
      refine ab_invS1 C dX6_set_32 mlX6_50 ysX6_lowestBits (tX6_lowestBits l _ _ _ hq7) (Nat.le_of_ble_eq_true rfl) (Nat.le_of_ble_eq_true rfl) rfl (Nat.le_of_ble_eq_true rfl) ?_
      obtain ⟨hg8, h⟩ := ab_grd h
      refine ab_last C dX6_set_35 rkC_43 (mmC_43 (ab_inb_lt hg5)) hg8 ?_
      refine ab_nmS (fun σ9 eσ9 => ?_)
      replace h := ab_kh eσ9 h
      refine ab_weak (lv' := [none, none, none, none, none]) ⟨.inl rfl, ⟨.inl rfl, ⟨.inl rfl, ⟨.inl rfl, ⟨.inl rfl, trivial⟩⟩⟩⟩⟩ ?_
      exact gX6_set_b36 C _ h
end
def fX7_greatestThatSays_b33 (kk4 : Int32 → Int32 → Int32 → ab_S → Option Int32) (v1 : Int32) (v2 : Int32) (v3 : Int32) (σ : ab_S) : Option Int32 := kk4 v1 v2 (v3 + 1) σ
def fX7_greatestThatSays_b4_o (kk4 : Int32 → Int32 → Int32 → ab_S → Option Int32) (v1 : Int32) (v2 : Int32) (v3 : Int32) (σ : ab_S) : Option Int32 := (if (σ.1 1 0 3) ≤ v3 then some v2 else (if ab_inb v3 5 = true then (if (σ.1 3 0 v3.toNatClampNeg) = v1 then (if ab_inb v3 5 = true then ab_k (if v2 < (σ.1 2 0 v3.toNatClampNeg) then (σ.1 2 0 v3.toNatClampNeg) else v2 : Int32) fun w5 => fX7_greatestThatSays_b33 kk4 v1 w5 v3 σ else none) else fX7_greatestThatSays_b33 kk4 v1 v2 v3 σ) else none))
def fX7_greatestThatSays_b4 : Nat → Int32 → Int32 → Int32 → ab_S → Option Int32
  | 0 => fun _ _ _ _ => none
  | n + 1 => fX7_greatestThatSays_b4_o  (fX7_greatestThatSays_b4 n)
def fX7_greatestThatSays (x1 : Int32) (σ : ab_S) : Option Int32 := fX7_greatestThatSays_b4 ab_N x1 0 0 σ
section
variable {p : Program} {l : Launch} {e : Env} {s : State} {m : MethodId} {args : Array Value} {below : List Frame} {meth : Method} {c : Code} {D : va_G} {cA : Nat → ClassId} {ad : Nat → Nat → Nat}
set_option maxRecDepth 100000 in
set_option maxHeartbeats 4000000 in
theorem gX7_greatestThatSays_b33 {R : Int32} (C : ab_C yC p s m args meth c D cA ad cX7_greatestThatSays 4 RX7 (some .int)) (σ : ab_S) {kk4 : Int32 → Int32 → Int32 → ab_S → Option Int32} (hk4 : ∀ (v1 : Int32) (v2 : Int32) (v3 : Int32), kk4 v1 v2 v3 σ = some R → ab_G yC p l e s m args below meth c D cA ad 4 1 (some (.inl R)) σ 4 [some (.inr (.inr (1, 0))), some (.inl v1), some (.inl v2), some (.inl v3)] [] σ) (v1 : Int32) (v2 : Int32) (v3 : Int32) (h : fX7_greatestThatSays_b33 kk4 v1 v2 v3 σ = some R) : ab_G yC p l e s m args below meth c D cA ad 4 1 (some (.inl R)) σ 33 [some (.inr (.inr (1, 0))), some (.inl v1), some (.inl v2), some (.inl v3)] [] σ := by
  refine ab_iinc C dX7_greatestThatSays_33 rfl (v := 1) rfl (Nat.le_of_ble_eq_true rfl) ?_
  refine ab_goto C (tgt := 4) dX7_greatestThatSays_36 (by decide) ?_
  refine ab_weak (lv' := [some (.inr (.inr (1, 0))), some (.inl v1), some (.inl v2), some (.inl (v3 + 1))]) ⟨.inr rfl, ⟨.inr rfl, ⟨.inr rfl, ⟨.inr rfl, trivial⟩⟩⟩⟩ ?_
  exact hk4 _ _ _ h
set_option maxRecDepth 100000 in
set_option maxHeartbeats 4000000 in
theorem gX7_greatestThatSays_b4_o {R : Int32} (C : ab_C yC p s m args meth c D cA ad cX7_greatestThatSays 4 RX7 (some .int)) (σ : ab_S) {kk4 : Int32 → Int32 → Int32 → ab_S → Option Int32} (hk4 : ∀ (v1 : Int32) (v2 : Int32) (v3 : Int32), kk4 v1 v2 v3 σ = some R → ab_G yC p l e s m args below meth c D cA ad 4 1 (some (.inl R)) σ 4 [some (.inr (.inr (1, 0))), some (.inl v1), some (.inl v2), some (.inl v3)] [] σ) (v1 : Int32) (v2 : Int32) (v3 : Int32) (h : fX7_greatestThatSays_b4_o kk4 v1 v2 v3 σ = some R) : ab_G yC p l e s m args below meth c D cA ad 4 1 (some (.inl R)) σ 4 [some (.inr (.inr (1, 0))), some (.inl v1), some (.inl v2), some (.inl v3)] [] σ := by
  refine ab_iload_n C dX7_greatestThatSays_4 rfl ?_
  refine ab_aload_n C dX7_greatestThatSays_5 rfl ?_
  refine ab_getI C dX7_greatestThatSays_6 flX7_32 rkC_1 rfl mmC_1 ?_
  refine ab_icmp_ge C (tgt := 39) dX7_greatestThatSays_9 (by decide) (fun hc1 => ?_) (fun hc1 => ?_)
  · replace h := ab_pos hc1 h
    refine ab_iload_n C dX7_greatestThatSays_39 rfl ?_
    obtain rfl := Option.some.inj h
    exact ab_iret C dX7_greatestThatSays_40
  · replace h := ab_neg hc1 h
    refine ab_aload_n C dX7_greatestThatSays_12 rfl ?_
    refine ab_getR C dX7_greatestThatSays_13 flX7_15 rkC_1 rfl mmC_1 ?_
    refine ab_iload_n C dX7_greatestThatSays_16 rfl ?_
    obtain ⟨hg2, h⟩ := ab_grd h
    refine ab_iald C dX7_greatestThatSays_17 rkC_3 mmC_3 hg2 ?_
    refine ab_iload_n C dX7_greatestThatSays_18 rfl ?_
    refine ab_icmp_ne C (tgt := 33) dX7_greatestThatSays_19 (by decide) (fun hc3 => ?_) (fun hc3 => ?_)
    · replace h := ab_neg hc3 h
      refine ab_weak (lv' := [some (.inr (.inr (1, 0))), some (.inl v1), some (.inl v2), some (.inl v3)]) ⟨.inr rfl, ⟨.inr rfl, ⟨.inr rfl, ⟨.inr rfl, trivial⟩⟩⟩⟩ ?_
      exact gX7_greatestThatSays_b33 C _ hk4 _ _ _ h
    · replace h := ab_pos hc3 h
      refine ab_iload_n C dX7_greatestThatSays_22 rfl ?_
      refine ab_aload_n C dX7_greatestThatSays_23 rfl ?_
      refine ab_getR C dX7_greatestThatSays_24 flX7_9 rkC_1 rfl mmC_1 ?_
      refine ab_iload_n C dX7_greatestThatSays_27 rfl ?_
      obtain ⟨hg4, h⟩ := ab_grd h
      refine ab_iald C dX7_greatestThatSays_28 rkC_2 mmC_2 hg4 ?_
      refine ab_mmax C dX7_greatestThatSays_29 mlX7_76 sw_mmax kw_mmax (Nat.le_of_ble_eq_true rfl) (Nat.le_of_ble_eq_true rfl) ?_
      refine ab_nmI (fun w5 ew5 => ?_)
      replace h := ab_kh ew5 h
      refine ab_istore_n C dX7_greatestThatSays_32 (Nat.le_of_ble_eq_true rfl) ?_
      refine ab_weak (lv' := [some (.inr (.inr (1, 0))), some (.inl v1), some (.inl w5), some (.inl v3)]) ⟨.inr rfl, ⟨.inr rfl, ⟨.inr rfl, ⟨.inr rfl, trivial⟩⟩⟩⟩ ?_
      exact gX7_greatestThatSays_b33 C _ hk4 _ _ _ h
theorem gX7_greatestThatSays_b4 {R : Int32} (C : ab_C yC p s m args meth c D cA ad cX7_greatestThatSays 4 RX7 (some .int)) (σ : ab_S) : ∀ (j : Nat) (v1 : Int32) (v2 : Int32) (v3 : Int32), fX7_greatestThatSays_b4 j v1 v2 v3 σ = some R → ab_G yC p l e s m args below meth c D cA ad 4 1 (some (.inl R)) σ 4 [some (.inr (.inr (1, 0))), some (.inl v1), some (.inl v2), some (.inl v3)] [] σ := by
  intro j
  induction j with
  | zero => intro v1 v2 v3  h; cases h
  | succ j ih => intro v1 v2 v3  h; exact gX7_greatestThatSays_b4_o C σ ih _ _ _ h
set_option maxRecDepth 100000 in
set_option maxHeartbeats 4000000 in
theorem tX7_greatestThatSays (l : Launch) (x1 : Int32) (σ : ab_S) {R : Int32} (h : fX7_greatestThatSays x1 σ = some R) : ab_M l yC yX7_greatestThatSays cX7_greatestThatSays 4 (some .int) 1 [.inr (.inr (1, 0)), .inl x1] σ (some (.inl R)) σ := by
  refine ab_M_intro ndC (by decide) (Nat.le_of_ble_eq_true rfl) ?_
  intro p e s m args below meth c D cA ad C
  have C : ab_C yC p s m args meth c D cA ad cX7_greatestThatSays 4 RX7 (some .int) := C
  refine ab_weak (lv' := [some (.inr (.inr (1, 0))), some (.inl x1), none, none]) ⟨.inr rfl, ⟨.inr rfl, ⟨.inl rfl, ⟨.inl rfl, trivial⟩⟩⟩⟩ ?_
  refine ab_iconst C dX7_greatestThatSays_0 (v := 0) rfl ?_
  refine ab_istore_n C dX7_greatestThatSays_1 (Nat.le_of_ble_eq_true rfl) ?_
  refine ab_iconst C dX7_greatestThatSays_2 (v := 0) rfl ?_
  refine ab_istore_n C dX7_greatestThatSays_3 (Nat.le_of_ble_eq_true rfl) ?_
  refine ab_weak (lv' := [some (.inr (.inr (1, 0))), some (.inl x1), some (.inl 0), some (.inl 0)]) ⟨.inr rfl, ⟨.inr rfl, ⟨.inr rfl, ⟨.inr rfl, trivial⟩⟩⟩⟩ ?_
  exact gX7_greatestThatSays_b4 C _ ab_N _ _ _ h
end
def fX7_greatestTogether_b62 (kk21 : Int32 → Int32 → Int32 → ab_S → Option (Int32 × ab_S)) (kk32 : Int32 → Int32 → Int32 → Int32 → Int32 → ab_S → Option (Int32 × ab_S)) (v1 : Int32) (v2 : Int32) (v3 : Int32) (v4 : Int32) (v5 : Int32) (σ : ab_S) : Option (Int32 × ab_S) := kk32 v1 v2 v3 v4 (v5 + 1) σ
def fX7_greatestTogether_b32_o (kk21 : Int32 → Int32 → Int32 → ab_S → Option (Int32 × ab_S)) (kk32 : Int32 → Int32 → Int32 → Int32 → Int32 → ab_S → Option (Int32 × ab_S)) (v1 : Int32) (v2 : Int32) (v3 : Int32) (v4 : Int32) (v5 : Int32) (σ : ab_S) : Option (Int32 × ab_S) := (if (σ.1 1 0 3) ≤ v5 then (if ab_inb v4 5 = true then (if ab_inb v4 5 = true then ab_k (ab_si σ 4 0 v4.toNatClampNeg 0) fun σ4 => kk21 v1 (v2 + (σ.1 4 0 v4.toNatClampNeg)) (v3 + 1) σ4 else none) else none) else (if ab_inb v5 5 = true then (if ab_inb v4 5 = true then (if (σ.1 4 0 v5.toNatClampNeg) ≤ (σ.1 4 0 v4.toNatClampNeg) then fX7_greatestTogether_b62 kk21 kk32 v1 v2 v3 v4 v5 σ else fX7_greatestTogether_b62 kk21 kk32 v1 v2 v3 v5 v5 σ) else none) else none))
def fX7_greatestTogether_b32 (kk21 : Int32 → Int32 → Int32 → ab_S → Option (Int32 × ab_S)) : Nat → Int32 → Int32 → Int32 → Int32 → Int32 → ab_S → Option (Int32 × ab_S)
  | 0 => fun _ _ _ _ _ _ => none
  | n + 1 => fX7_greatestTogether_b32_o kk21 (fX7_greatestTogether_b32 kk21 n)
def fX7_greatestTogether_b21_o (kk21 : Int32 → Int32 → Int32 → ab_S → Option (Int32 × ab_S)) (v1 : Int32) (v2 : Int32) (v3 : Int32) (σ : ab_S) : Option (Int32 × ab_S) := (if v1 ≤ v3 then some (v2, σ) else fX7_greatestTogether_b32 kk21 ab_N v1 v2 v3 0 1 σ)
def fX7_greatestTogether_b21 : Nat → Int32 → Int32 → Int32 → ab_S → Option (Int32 × ab_S)
  | 0 => fun _ _ _ _ => none
  | n + 1 => fX7_greatestTogether_b21_o  (fX7_greatestTogether_b21 n)
def fX7_greatestTogether (x1 : Int32) (σ : ab_S) : Option (Int32 × ab_S) := (if ab_cpb 0 0 (σ.1 1 0 3) 5 5 = true then ab_k (ab_ci σ 2 0 ((0 : Int32).toNatClampNeg) 4 0 ((0 : Int32).toNatClampNeg) ((σ.1 1 0 3 : Int32).toNatClampNeg)) fun σ2 => fX7_greatestTogether_b21 ab_N x1 0 0 σ2 else none)
section
variable {p : Program} {l : Launch} {e : Env} {s : State} {m : MethodId} {args : Array Value} {below : List Frame} {meth : Method} {c : Code} {D : va_G} {cA : Nat → ClassId} {ad : Nat → Nat → Nat}
set_option maxRecDepth 100000 in
set_option maxHeartbeats 4000000 in
theorem gX7_greatestTogether_b62 {R : (Int32 × ab_S)} (C : ab_C yC p s m args meth c D cA ad cX7_greatestTogether 6 RX7 (some .int)) {kk21 : Int32 → Int32 → Int32 → ab_S → Option (Int32 × ab_S)} (hk21 : ∀ (v1 : Int32) (v2 : Int32) (v3 : Int32) (σ : ab_S), kk21 v1 v2 v3 σ = some R → ab_G yC p l e s m args below meth c D cA ad 6 1 (some (.inl R.1)) R.2 21 [some (.inr (.inr (1, 0))), some (.inl v1), some (.inl v2), some (.inl v3), none, none] [] σ) {kk32 : Int32 → Int32 → Int32 → Int32 → Int32 → ab_S → Option (Int32 × ab_S)} (hk32 : ∀ (v1 : Int32) (v2 : Int32) (v3 : Int32) (v4 : Int32) (v5 : Int32) (σ : ab_S), kk32 v1 v2 v3 v4 v5 σ = some R → ab_G yC p l e s m args below meth c D cA ad 6 1 (some (.inl R.1)) R.2 32 [some (.inr (.inr (1, 0))), some (.inl v1), some (.inl v2), some (.inl v3), some (.inl v4), some (.inl v5)] [] σ) (v1 : Int32) (v2 : Int32) (v3 : Int32) (v4 : Int32) (v5 : Int32) (σ : ab_S) (h : fX7_greatestTogether_b62 kk21 kk32 v1 v2 v3 v4 v5 σ = some R) : ab_G yC p l e s m args below meth c D cA ad 6 1 (some (.inl R.1)) R.2 62 [some (.inr (.inr (1, 0))), some (.inl v1), some (.inl v2), some (.inl v3), some (.inl v4), some (.inl v5)] [] σ := by
  refine ab_iinc C dX7_greatestTogether_62 rfl (v := 1) rfl (Nat.le_of_ble_eq_true rfl) ?_
  refine ab_goto C (tgt := 32) dX7_greatestTogether_65 (by decide) ?_
  refine ab_weak (lv' := [some (.inr (.inr (1, 0))), some (.inl v1), some (.inl v2), some (.inl v3), some (.inl v4), some (.inl (v5 + 1))]) ⟨.inr rfl, ⟨.inr rfl, ⟨.inr rfl, ⟨.inr rfl, ⟨.inr rfl, ⟨.inr rfl, trivial⟩⟩⟩⟩⟩⟩ ?_
  exact hk32 _ _ _ _ _ _ h
set_option maxRecDepth 100000 in
set_option maxHeartbeats 4000000 in
theorem gX7_greatestTogether_b32_o {R : (Int32 × ab_S)} (C : ab_C yC p s m args meth c D cA ad cX7_greatestTogether 6 RX7 (some .int)) {kk21 : Int32 → Int32 → Int32 → ab_S → Option (Int32 × ab_S)} (hk21 : ∀ (v1 : Int32) (v2 : Int32) (v3 : Int32) (σ : ab_S), kk21 v1 v2 v3 σ = some R → ab_G yC p l e s m args below meth c D cA ad 6 1 (some (.inl R.1)) R.2 21 [some (.inr (.inr (1, 0))), some (.inl v1), some (.inl v2), some (.inl v3), none, none] [] σ) {kk32 : Int32 → Int32 → Int32 → Int32 → Int32 → ab_S → Option (Int32 × ab_S)} (hk32 : ∀ (v1 : Int32) (v2 : Int32) (v3 : Int32) (v4 : Int32) (v5 : Int32) (σ : ab_S), kk32 v1 v2 v3 v4 v5 σ = some R → ab_G yC p l e s m args below meth c D cA ad 6 1 (some (.inl R.1)) R.2 32 [some (.inr (.inr (1, 0))), some (.inl v1), some (.inl v2), some (.inl v3), some (.inl v4), some (.inl v5)] [] σ) (v1 : Int32) (v2 : Int32) (v3 : Int32) (v4 : Int32) (v5 : Int32) (σ : ab_S) (h : fX7_greatestTogether_b32_o kk21 kk32 v1 v2 v3 v4 v5 σ = some R) : ab_G yC p l e s m args below meth c D cA ad 6 1 (some (.inl R.1)) R.2 32 [some (.inr (.inr (1, 0))), some (.inl v1), some (.inl v2), some (.inl v3), some (.inl v4), some (.inl v5)] [] σ := by
  refine ab_iload C dX7_greatestTogether_32 rfl ?_
  refine ab_aload_n C dX7_greatestTogether_34 rfl ?_
  refine ab_getI C dX7_greatestTogether_35 flX7_32 rkC_1 rfl mmC_1 ?_
  refine ab_icmp_ge C (tgt := 68) dX7_greatestTogether_38 (by decide) (fun hc1 => ?_) (fun hc1 => ?_)
  · replace h := ab_pos hc1 h
    refine ab_iload_n C dX7_greatestTogether_68 rfl ?_
    refine ab_aload_n C dX7_greatestTogether_69 rfl ?_
    refine ab_getR C dX7_greatestTogether_70 flX7_18 rkC_1 rfl mmC_1 ?_
    refine ab_iload C dX7_greatestTogether_73 rfl ?_
    obtain ⟨hg2, h⟩ := ab_grd h
    refine ab_iald C dX7_greatestTogether_75 rkC_4 mmC_4 hg2 ?_
    refine ab_iadd C dX7_greatestTogether_76  ?_
    refine ab_istore_n C dX7_greatestTogether_77 (Nat.le_of_ble_eq_true rfl) ?_
    refine ab_aload_n C dX7_greatestTogether_78 rfl ?_
    refine ab_getR C dX7_greatestTogether_79 flX7_18 rkC_1 rfl mmC_1 ?_
    refine ab_iload C dX7_greatestTogether_82 rfl ?_
    refine ab_iconst C dX7_greatestTogether_84 (v := 0) rfl ?_
    obtain ⟨hg3, h⟩ := ab_grd h
    refine ab_iast C dX7_greatestTogether_85 rkC_4 mmC_4 hg3 ?_
    refine ab_nmS (fun σ4 eσ4 => ?_)
    replace h := ab_kh eσ4 h
    refine ab_iinc C dX7_greatestTogether_86 rfl (v := 1) rfl (Nat.le_of_ble_eq_true rfl) ?_
    refine ab_goto C (tgt := 21) dX7_greatestTogether_89 (by decide) ?_
    refine ab_weak (lv' := [some (.inr (.inr (1, 0))), some (.inl v1), some (.inl (v2 + (σ.1 4 0 v4.toNatClampNeg))), some (.inl (v3 + 1)), none, none]) ⟨.inr rfl, ⟨.inr rfl, ⟨.inr rfl, ⟨.inr rfl, ⟨.inl rfl, ⟨.inl rfl, trivial⟩⟩⟩⟩⟩⟩ ?_
    exact hk21 _ _ _ _ h
  · replace h := ab_neg hc1 h
    refine ab_aload_n C dX7_greatestTogether_41 rfl ?_
    refine ab_getR C dX7_greatestTogether_42 flX7_18 rkC_1 rfl mmC_1 ?_
    refine ab_iload C dX7_greatestTogether_45 rfl ?_
    obtain ⟨hg5, h⟩ := ab_grd h
    refine ab_iald C dX7_greatestTogether_47 rkC_4 mmC_4 hg5 ?_
    refine ab_aload_n C dX7_greatestTogether_48 rfl ?_
    refine ab_getR C dX7_greatestTogether_49 flX7_18 rkC_1 rfl mmC_1 ?_
    refine ab_iload C dX7_greatestTogether_52 rfl ?_
    obtain ⟨hg6, h⟩ := ab_grd h
    refine ab_iald C dX7_greatestTogether_54 rkC_4 mmC_4 hg6 ?_
    refine ab_icmp_le C (tgt := 62) dX7_greatestTogether_55 (by decide) (fun hc7 => ?_) (fun hc7 => ?_)
    · replace h := ab_pos hc7 h
      refine ab_weak (lv' := [some (.inr (.inr (1, 0))), some (.inl v1), some (.inl v2), some (.inl v3), some (.inl v4), some (.inl v5)]) ⟨.inr rfl, ⟨.inr rfl, ⟨.inr rfl, ⟨.inr rfl, ⟨.inr rfl, ⟨.inr rfl, trivial⟩⟩⟩⟩⟩⟩ ?_
      exact gX7_greatestTogether_b62 C hk21 hk32 _ _ _ _ _ _ h
    · replace h := ab_neg hc7 h
      refine ab_iload C dX7_greatestTogether_58 rfl ?_
      refine ab_istore C dX7_greatestTogether_60 (Nat.le_of_ble_eq_true rfl) ?_
      refine ab_weak (lv' := [some (.inr (.inr (1, 0))), some (.inl v1), some (.inl v2), some (.inl v3), some (.inl v5), some (.inl v5)]) ⟨.inr rfl, ⟨.inr rfl, ⟨.inr rfl, ⟨.inr rfl, ⟨.inr rfl, ⟨.inr rfl, trivial⟩⟩⟩⟩⟩⟩ ?_
      exact gX7_greatestTogether_b62 C hk21 hk32 _ _ _ _ _ _ h
theorem gX7_greatestTogether_b32 {R : (Int32 × ab_S)} (C : ab_C yC p s m args meth c D cA ad cX7_greatestTogether 6 RX7 (some .int)) {kk21 : Int32 → Int32 → Int32 → ab_S → Option (Int32 × ab_S)} (hk21 : ∀ (v1 : Int32) (v2 : Int32) (v3 : Int32) (σ : ab_S), kk21 v1 v2 v3 σ = some R → ab_G yC p l e s m args below meth c D cA ad 6 1 (some (.inl R.1)) R.2 21 [some (.inr (.inr (1, 0))), some (.inl v1), some (.inl v2), some (.inl v3), none, none] [] σ) : ∀ (j : Nat) (v1 : Int32) (v2 : Int32) (v3 : Int32) (v4 : Int32) (v5 : Int32) (σ : ab_S), fX7_greatestTogether_b32 kk21 j v1 v2 v3 v4 v5 σ = some R → ab_G yC p l e s m args below meth c D cA ad 6 1 (some (.inl R.1)) R.2 32 [some (.inr (.inr (1, 0))), some (.inl v1), some (.inl v2), some (.inl v3), some (.inl v4), some (.inl v5)] [] σ := by
  intro j
  induction j with
  | zero => intro v1 v2 v3 v4 v5 σ  h; cases h
  | succ j ih => intro v1 v2 v3 v4 v5 σ  h; exact gX7_greatestTogether_b32_o C hk21 ih _ _ _ _ _ _ h
set_option maxRecDepth 100000 in
set_option maxHeartbeats 4000000 in
theorem gX7_greatestTogether_b21_o {R : (Int32 × ab_S)} (C : ab_C yC p s m args meth c D cA ad cX7_greatestTogether 6 RX7 (some .int)) {kk21 : Int32 → Int32 → Int32 → ab_S → Option (Int32 × ab_S)} (hk21 : ∀ (v1 : Int32) (v2 : Int32) (v3 : Int32) (σ : ab_S), kk21 v1 v2 v3 σ = some R → ab_G yC p l e s m args below meth c D cA ad 6 1 (some (.inl R.1)) R.2 21 [some (.inr (.inr (1, 0))), some (.inl v1), some (.inl v2), some (.inl v3), none, none] [] σ) (v1 : Int32) (v2 : Int32) (v3 : Int32) (σ : ab_S) (h : fX7_greatestTogether_b21_o kk21 v1 v2 v3 σ = some R) : ab_G yC p l e s m args below meth c D cA ad 6 1 (some (.inl R.1)) R.2 21 [some (.inr (.inr (1, 0))), some (.inl v1), some (.inl v2), some (.inl v3), none, none] [] σ := by
  refine ab_iload_n C dX7_greatestTogether_21 rfl ?_
  refine ab_iload_n C dX7_greatestTogether_22 rfl ?_
  refine ab_icmp_ge C (tgt := 92) dX7_greatestTogether_23 (by decide) (fun hc1 => ?_) (fun hc1 => ?_)
  · replace h := ab_pos hc1 h
    refine ab_iload_n C dX7_greatestTogether_92 rfl ?_
    obtain rfl := Option.some.inj h
    exact ab_iret C dX7_greatestTogether_93
  · replace h := ab_neg hc1 h
    refine ab_iconst C dX7_greatestTogether_26 (v := 0) rfl ?_
    refine ab_istore C dX7_greatestTogether_27 (Nat.le_of_ble_eq_true rfl) ?_
    refine ab_iconst C dX7_greatestTogether_29 (v := 1) rfl ?_
    refine ab_istore C dX7_greatestTogether_30 (Nat.le_of_ble_eq_true rfl) ?_
    refine ab_weak (lv' := [some (.inr (.inr (1, 0))), some (.inl v1), some (.inl v2), some (.inl v3), some (.inl 0), some (.inl 1)]) ⟨.inr rfl, ⟨.inr rfl, ⟨.inr rfl, ⟨.inr rfl, ⟨.inr rfl, ⟨.inr rfl, trivial⟩⟩⟩⟩⟩⟩ ?_
    exact gX7_greatestTogether_b32 C hk21 ab_N _ _ _ _ _ _ h
theorem gX7_greatestTogether_b21 {R : (Int32 × ab_S)} (C : ab_C yC p s m args meth c D cA ad cX7_greatestTogether 6 RX7 (some .int)) : ∀ (j : Nat) (v1 : Int32) (v2 : Int32) (v3 : Int32) (σ : ab_S), fX7_greatestTogether_b21 j v1 v2 v3 σ = some R → ab_G yC p l e s m args below meth c D cA ad 6 1 (some (.inl R.1)) R.2 21 [some (.inr (.inr (1, 0))), some (.inl v1), some (.inl v2), some (.inl v3), none, none] [] σ := by
  intro j
  induction j with
  | zero => intro v1 v2 v3 σ  h; cases h
  | succ j ih => intro v1 v2 v3 σ  h; exact gX7_greatestTogether_b21_o C ih _ _ _ _ h
set_option maxRecDepth 100000 in
set_option maxHeartbeats 4000000 in
theorem tX7_greatestTogether (l : Launch) (x1 : Int32) (σ : ab_S) {R : (Int32 × ab_S)} (h : fX7_greatestTogether x1 σ = some R) : ab_M l yC yX7_greatestTogether cX7_greatestTogether 6 (some .int) 1 [.inr (.inr (1, 0)), .inl x1] σ (some (.inl R.1)) R.2 := by
  refine ab_M_intro ndC (by decide) (Nat.le_of_ble_eq_true rfl) ?_
  intro p e s m args below meth c D cA ad C
  have C : ab_C yC p s m args meth c D cA ad cX7_greatestTogether 6 RX7 (some .int) := C
  refine ab_weak (lv' := [some (.inr (.inr (1, 0))), some (.inl x1), none, none, none, none]) ⟨.inr rfl, ⟨.inr rfl, ⟨.inl rfl, ⟨.inl rfl, ⟨.inl rfl, ⟨.inl rfl, trivial⟩⟩⟩⟩⟩⟩ ?_
  refine ab_aload_n C dX7_greatestTogether_0 rfl ?_
  refine ab_getR C dX7_greatestTogether_1 flX7_9 rkC_1 rfl mmC_1 ?_
  refine ab_iconst C dX7_greatestTogether_4 (v := 0) rfl ?_
  refine ab_aload_n C dX7_greatestTogether_5 rfl ?_
  refine ab_getR C dX7_greatestTogether_6 flX7_18 rkC_1 rfl mmC_1 ?_
  refine ab_iconst C dX7_greatestTogether_9 (v := 0) rfl ?_
  refine ab_aload_n C dX7_greatestTogether_10 rfl ?_
  refine ab_getI C dX7_greatestTogether_11 flX7_32 rkC_1 rfl mmC_1 ?_
  obtain ⟨hg1, h⟩ := ab_grd h
  refine ab_copyi C dX7_greatestTogether_14 mlX7_82 rkC_2 mmC_2 rkC_4 mmC_4 hg1 (Nat.le_of_ble_eq_true rfl) (Nat.le_of_ble_eq_true rfl) ?_
  refine ab_nmS (fun σ2 eσ2 => ?_)
  replace h := ab_kh eσ2 h
  refine ab_iconst C dX7_greatestTogether_17 (v := 0) rfl ?_
  refine ab_istore_n C dX7_greatestTogether_18 (Nat.le_of_ble_eq_true rfl) ?_
  refine ab_iconst C dX7_greatestTogether_19 (v := 0) rfl ?_
  refine ab_istore_n C dX7_greatestTogether_20 (Nat.le_of_ble_eq_true rfl) ?_
  refine ab_weak (lv' := [some (.inr (.inr (1, 0))), some (.inl x1), some (.inl 0), some (.inl 0), none, none]) ⟨.inr rfl, ⟨.inr rfl, ⟨.inr rfl, ⟨.inr rfl, ⟨.inl rfl, ⟨.inl rfl, trivial⟩⟩⟩⟩⟩⟩ ?_
  exact gX7_greatestTogether_b21 C ab_N _ _ _ _ h
end
def fX7_lay (x1 : Int32) (σ : ab_S) : Option ab_S := ab_k (ab_si σ 1 0 3 x1) fun σ1 => (fJ7_fill_53178_r2 1 σ1).bind fun q2 => (fJ7_fill_53178_r3 0 q2).bind fun q3 => ab_k (ab_si q3 1 0 6 ((q3.1 1 0 6) + 1)) fun σ4 => some σ4
section
variable {p : Program} {l : Launch} {e : Env} {s : State} {m : MethodId} {args : Array Value} {below : List Frame} {meth : Method} {c : Code} {D : va_G} {cA : Nat → ClassId} {ad : Nat → Nat → Nat}
set_option maxRecDepth 100000 in
set_option maxHeartbeats 4000000 in
theorem tX7_lay (l : Launch) (x1 : Int32) (σ : ab_S) {R : ab_S} (h : fX7_lay x1 σ = some R) : ab_M l yC yX7_lay cX7_lay 2 none 1 [.inr (.inr (1, 0)), .inl x1] σ none R := by
  refine ab_M_intro ndC (by decide) (Nat.le_of_ble_eq_true rfl) ?_
  intro p e s m args below meth c D cA ad C
  have C : ab_C yC p s m args meth c D cA ad cX7_lay 2 RX7 none := C
  refine ab_weak (lv' := [some (.inr (.inr (1, 0))), some (.inl x1)]) ⟨.inr rfl, ⟨.inr rfl, trivial⟩⟩ ?_
  refine ab_aload_n C dX7_lay_0 rfl ?_
  refine ab_iload_n C dX7_lay_1 rfl ?_
  refine ab_putI C dX7_lay_2 fpX7_32 rkC_1 rfl mmC_1 rfl rfl ?_
  refine ab_nmS (fun σ1 eσ1 => ?_)
  replace h := ab_kh eσ1 h
  refine ab_aload_n C dX7_lay_5 rfl ?_
  refine ab_getR C dX7_lay_6 flX7_9 rkC_1 rfl mmC_1 ?_
  refine ab_iconst C dX7_lay_9 (v := 1) rfl ?_
  obtain ⟨q2, hq2, h⟩ := ab_bind h
  refine ab_invS0 C dX7_lay_10 mlX7_35 ysJ7_fill_53178 (tJ7_fill_53178_r2 l _ _ hq2) (Nat.le_of_ble_eq_true rfl) (Nat.le_of_ble_eq_true rfl) rfl (Nat.le_of_ble_eq_true rfl) ?_
  refine ab_aload_n C dX7_lay_13 rfl ?_
  refine ab_getR C dX7_lay_14 flX7_15 rkC_1 rfl mmC_1 ?_
  refine ab_iconst C dX7_lay_17 (v := 0) rfl ?_
  obtain ⟨q3, hq3, h⟩ := ab_bind h
  refine ab_invS0 C dX7_lay_18 mlX7_35 ysJ7_fill_53178 (tJ7_fill_53178_r3 l _ _ hq3) (Nat.le_of_ble_eq_true rfl) (Nat.le_of_ble_eq_true rfl) rfl (Nat.le_of_ble_eq_true rfl) ?_
  refine ab_aload_n C dX7_lay_21 rfl ?_
  refine ab_dup C dX7_lay_22 rfl ?_
  refine ab_getI C dX7_lay_23 flX7_41 rkC_1 rfl mmC_1 ?_
  refine ab_iconst C dX7_lay_26 (v := 1) rfl ?_
  refine ab_iadd C dX7_lay_27  ?_
  refine ab_putI C dX7_lay_28 fpX7_41 rkC_1 rfl mmC_1 rfl rfl ?_
  refine ab_nmS (fun σ4 eσ4 => ?_)
  replace h := ab_kh eσ4 h
  obtain rfl := Option.some.inj h
  exact ab_vret C dX7_lay_31
end
def fX7_saidOf_b18 (t0 : Int32) (σ : ab_S) : Option Int32 := some t0
def fX7_saidOf (x1 : Int32) (σ : ab_S) : Option Int32 := (fX7_has x1 σ).bind fun q1 => (if q1 = 0 then fX7_saidOf_b18 0 σ else (if ab_inb x1 5 = true then fX7_saidOf_b18 (σ.1 3 0 x1.toNatClampNeg) σ else none))
section
variable {p : Program} {l : Launch} {e : Env} {s : State} {m : MethodId} {args : Array Value} {below : List Frame} {meth : Method} {c : Code} {D : va_G} {cA : Nat → ClassId} {ad : Nat → Nat → Nat}
set_option maxRecDepth 100000 in
set_option maxHeartbeats 4000000 in
theorem gX7_saidOf_b18 {R : Int32} (C : ab_C yC p s m args meth c D cA ad cX7_saidOf 2 RX7 (some .int)) (σ : ab_S) (t0 : Int32) (h : fX7_saidOf_b18 t0 σ = some R) : ab_G yC p l e s m args below meth c D cA ad 2 1 (some (.inl R)) σ 18 [none, none] [.inl t0] σ := by
  obtain rfl := Option.some.inj h
  exact ab_iret C dX7_saidOf_18
set_option maxRecDepth 100000 in
set_option maxHeartbeats 4000000 in
theorem tX7_saidOf (l : Launch) (x1 : Int32) (σ : ab_S) {R : Int32} (h : fX7_saidOf x1 σ = some R) : ab_M l yC yX7_saidOf cX7_saidOf 2 (some .int) 1 [.inr (.inr (1, 0)), .inl x1] σ (some (.inl R)) σ := by
  refine ab_M_intro ndC (by decide) (Nat.le_of_ble_eq_true rfl) ?_
  intro p e s m args below meth c D cA ad C
  have C : ab_C yC p s m args meth c D cA ad cX7_saidOf 2 RX7 (some .int) := C
  refine ab_weak (lv' := [some (.inr (.inr (1, 0))), some (.inl x1)]) ⟨.inr rfl, ⟨.inr rfl, trivial⟩⟩ ?_
  refine ab_aload_n C dX7_saidOf_0 rfl ?_
  refine ab_iload_n C dX7_saidOf_1 rfl ?_
  obtain ⟨q1, hq1, h⟩ := ab_bind h
  refine ab_inv1 C dX7_saidOf_2 mlX7_57 yvX7_has rkC_1 ⟨_, _, rfl⟩ mmC_1 (tX7_has l _ _ hq1) (Nat.le_of_ble_eq_true rfl) (Nat.le_of_ble_eq_true rfl) rfl (Nat.le_of_ble_eq_true rfl) ?_
  refine ab_if_eq C (tgt := 17) dX7_saidOf_5 (by decide) (fun hc2 => ?_) (fun hc2 => ?_)
  · replace h := ab_pos hc2 h
    refine ab_iconst C dX7_saidOf_17 (v := 0) rfl ?_
    refine ab_weak (lv' := [none, none]) ⟨.inl rfl, ⟨.inl rfl, trivial⟩⟩ ?_
    exact gX7_saidOf_b18 C _ _ h
  · replace h := ab_neg hc2 h
    refine ab_aload_n C dX7_saidOf_8 rfl ?_
    refine ab_getR C dX7_saidOf_9 flX7_15 rkC_1 rfl mmC_1 ?_
    refine ab_iload_n C dX7_saidOf_12 rfl ?_
    obtain ⟨hg3, h⟩ := ab_grd h
    refine ab_iald C dX7_saidOf_13 rkC_3 mmC_3 hg3 ?_
    refine ab_goto C (tgt := 18) dX7_saidOf_14 (by decide) ?_
    refine ab_weak (lv' := [none, none]) ⟨.inl rfl, ⟨.inl rfl, trivial⟩⟩ ?_
    exact gX7_saidOf_b18 C _ _ h
end
def fX7_say_b21 (v3 : Int32) (σ : ab_S) : Option (Int32 × ab_S) := some (v3, σ)
def fX7_say (x1 : Int32) (x2 : Int32) (σ : ab_S) : Option (Int32 × ab_S) := (fX7_saidOf x1 σ).bind fun q1 => (fX7_has x1 σ).bind fun q2 => (if q2 = 0 then fX7_say_b21 q1 σ else (if ab_inb x1 5 = true then ab_k (ab_si σ 3 0 x1.toNatClampNeg x2) fun σ5 => fX7_say_b21 q1 σ5 else none))
section
variable {p : Program} {l : Launch} {e : Env} {s : State} {m : MethodId} {args : Array Value} {below : List Frame} {meth : Method} {c : Code} {D : va_G} {cA : Nat → ClassId} {ad : Nat → Nat → Nat}
set_option maxRecDepth 100000 in
set_option maxHeartbeats 4000000 in
theorem gX7_say_b21 {R : (Int32 × ab_S)} (C : ab_C yC p s m args meth c D cA ad cX7_say 4 RX7 (some .int)) (v3 : Int32) (σ : ab_S) (h : fX7_say_b21 v3 σ = some R) : ab_G yC p l e s m args below meth c D cA ad 4 2 (some (.inl R.1)) R.2 21 [none, none, none, some (.inl v3)] [] σ := by
  refine ab_iload_n C dX7_say_21 rfl ?_
  obtain rfl := Option.some.inj h
  exact ab_iret C dX7_say_22
set_option maxRecDepth 100000 in
set_option maxHeartbeats 4000000 in
theorem tX7_say (l : Launch) (x1 : Int32) (x2 : Int32) (σ : ab_S) {R : (Int32 × ab_S)} (h : fX7_say x1 x2 σ = some R) : ab_M l yC yX7_say cX7_say 4 (some .int) 2 [.inr (.inr (1, 0)), .inl x1, .inl x2] σ (some (.inl R.1)) R.2 := by
  refine ab_M_intro ndC (by decide) (Nat.le_of_ble_eq_true rfl) ?_
  intro p e s m args below meth c D cA ad C
  have C : ab_C yC p s m args meth c D cA ad cX7_say 4 RX7 (some .int) := C
  refine ab_weak (lv' := [some (.inr (.inr (1, 0))), some (.inl x1), some (.inl x2), none]) ⟨.inr rfl, ⟨.inr rfl, ⟨.inr rfl, ⟨.inl rfl, trivial⟩⟩⟩⟩ ?_
  refine ab_aload_n C dX7_say_0 rfl ?_
  refine ab_iload_n C dX7_say_1 rfl ?_
  obtain ⟨q1, hq1, h⟩ := ab_bind h
  refine ab_inv1 C dX7_say_2 mlX7_65 yvX7_saidOf rkC_1 ⟨_, _, rfl⟩ mmC_1 (tX7_saidOf l _ _ hq1) (Nat.le_of_ble_eq_true rfl) (Nat.le_of_ble_eq_true rfl) rfl (Nat.le_of_ble_eq_true rfl) ?_
  refine ab_istore_n C dX7_say_5 (Nat.le_of_ble_eq_true rfl) ?_
  refine ab_aload_n C dX7_say_6 rfl ?_
  refine ab_iload_n C dX7_say_7 rfl ?_
  obtain ⟨q2, hq2, h⟩ := ab_bind h
  refine ab_inv1 C dX7_say_8 mlX7_57 yvX7_has rkC_1 ⟨_, _, rfl⟩ mmC_1 (tX7_has l _ _ hq2) (Nat.le_of_ble_eq_true rfl) (Nat.le_of_ble_eq_true rfl) rfl (Nat.le_of_ble_eq_true rfl) ?_
  refine ab_if_eq C (tgt := 21) dX7_say_11 (by decide) (fun hc3 => ?_) (fun hc3 => ?_)
  · replace h := ab_pos hc3 h
    refine ab_weak (lv' := [none, none, none, some (.inl q1)]) ⟨.inl rfl, ⟨.inl rfl, ⟨.inl rfl, ⟨.inr rfl, trivial⟩⟩⟩⟩ ?_
    exact gX7_say_b21 C _ _ h
  · replace h := ab_neg hc3 h
    refine ab_aload_n C dX7_say_14 rfl ?_
    refine ab_getR C dX7_say_15 flX7_15 rkC_1 rfl mmC_1 ?_
    refine ab_iload_n C dX7_say_18 rfl ?_
    refine ab_iload_n C dX7_say_19 rfl ?_
    obtain ⟨hg4, h⟩ := ab_grd h
    refine ab_iast C dX7_say_20 rkC_3 mmC_3 hg4 ?_
    refine ab_nmS (fun σ5 eσ5 => ?_)
    replace h := ab_kh eσ5 h
    refine ab_weak (lv' := [none, none, none, some (.inl q1)]) ⟨.inl rfl, ⟨.inl rfl, ⟨.inl rfl, ⟨.inr rfl, trivial⟩⟩⟩⟩ ?_
    exact gX7_say_b21 C _ _ h
end
def fX7_told_b38 (t0 : Int32) (σ : ab_S) : Option Int32 := some t0
def fX7_told (x1 : Int32) (x2 : Int32) (σ : ab_S) : Option Int32 := (if x2 = 1 then some (σ.1 1 0 4) else (if x2 = 2 then some (σ.1 1 0 5) else (fX7_has x1 σ).bind fun q3 => (if q3 = 0 then fX7_told_b38 0 σ else (if ab_inb x1 5 = true then fX7_told_b38 (σ.1 2 0 x1.toNatClampNeg) σ else none))))
section
variable {p : Program} {l : Launch} {e : Env} {s : State} {m : MethodId} {args : Array Value} {below : List Frame} {meth : Method} {c : Code} {D : va_G} {cA : Nat → ClassId} {ad : Nat → Nat → Nat}
set_option maxRecDepth 100000 in
set_option maxHeartbeats 4000000 in
theorem gX7_told_b38 {R : Int32} (C : ab_C yC p s m args meth c D cA ad cX7_told 3 RX7 (some .int)) (σ : ab_S) (t0 : Int32) (h : fX7_told_b38 t0 σ = some R) : ab_G yC p l e s m args below meth c D cA ad 3 1 (some (.inl R)) σ 38 [none, none, none] [.inl t0] σ := by
  obtain rfl := Option.some.inj h
  exact ab_iret C dX7_told_38
set_option maxRecDepth 100000 in
set_option maxHeartbeats 4000000 in
theorem tX7_told (l : Launch) (x1 : Int32) (x2 : Int32) (σ : ab_S) {R : Int32} (h : fX7_told x1 x2 σ = some R) : ab_M l yC yX7_told cX7_told 3 (some .int) 1 [.inr (.inr (1, 0)), .inl x1, .inl x2] σ (some (.inl R)) σ := by
  refine ab_M_intro ndC (by decide) (Nat.le_of_ble_eq_true rfl) ?_
  intro p e s m args below meth c D cA ad C
  have C : ab_C yC p s m args meth c D cA ad cX7_told 3 RX7 (some .int) := C
  refine ab_weak (lv' := [some (.inr (.inr (1, 0))), some (.inl x1), some (.inl x2)]) ⟨.inr rfl, ⟨.inr rfl, ⟨.inr rfl, trivial⟩⟩⟩ ?_
  refine ab_iload_n C dX7_told_0 rfl ?_
  refine ab_iconst C dX7_told_1 (v := 1) rfl ?_
  refine ab_icmp_ne C (tgt := 10) dX7_told_2 (by decide) (fun hc1 => ?_) (fun hc1 => ?_)
  · replace h := ab_neg hc1 h
    refine ab_iload_n C dX7_told_10 rfl ?_
    refine ab_iconst C dX7_told_11 (v := 2) rfl ?_
    refine ab_icmp_ne C (tgt := 20) dX7_told_12 (by decide) (fun hc2 => ?_) (fun hc2 => ?_)
    · replace h := ab_neg hc2 h
      refine ab_aload_n C dX7_told_20 rfl ?_
      refine ab_iload_n C dX7_told_21 rfl ?_
      obtain ⟨q3, hq3, h⟩ := ab_bind h
      refine ab_inv1 C dX7_told_22 mlX7_57 yvX7_has rkC_1 ⟨_, _, rfl⟩ mmC_1 (tX7_has l _ _ hq3) (Nat.le_of_ble_eq_true rfl) (Nat.le_of_ble_eq_true rfl) rfl (Nat.le_of_ble_eq_true rfl) ?_
      refine ab_if_eq C (tgt := 37) dX7_told_25 (by decide) (fun hc4 => ?_) (fun hc4 => ?_)
      · replace h := ab_pos hc4 h
        refine ab_iconst C dX7_told_37 (v := 0) rfl ?_
        refine ab_weak (lv' := [none, none, none]) ⟨.inl rfl, ⟨.inl rfl, ⟨.inl rfl, trivial⟩⟩⟩ ?_
        exact gX7_told_b38 C _ _ h
      · replace h := ab_neg hc4 h
        refine ab_aload_n C dX7_told_28 rfl ?_
        refine ab_getR C dX7_told_29 flX7_9 rkC_1 rfl mmC_1 ?_
        refine ab_iload_n C dX7_told_32 rfl ?_
        obtain ⟨hg5, h⟩ := ab_grd h
        refine ab_iald C dX7_told_33 rkC_2 mmC_2 hg5 ?_
        refine ab_goto C (tgt := 38) dX7_told_34 (by decide) ?_
        refine ab_weak (lv' := [none, none, none]) ⟨.inl rfl, ⟨.inl rfl, ⟨.inl rfl, trivial⟩⟩⟩ ?_
        exact gX7_told_b38 C _ _ h
    · replace h := ab_pos hc2 h
      refine ab_aload_n C dX7_told_15 rfl ?_
      refine ab_getI C dX7_told_16 flX7_25 rkC_1 rfl mmC_1 ?_
      obtain rfl := Option.some.inj h
      exact ab_iret C dX7_told_19
  · replace h := ab_pos hc1 h
    refine ab_aload_n C dX7_told_5 rfl ?_
    refine ab_getI C dX7_told_6 flX7_21 rkC_1 rfl mmC_1 ?_
    obtain rfl := Option.some.inj h
    exact ab_iret C dX7_told_9
end
def fX7_wholeWorth (σ : ab_S) : Option Int64 := (fX7_together σ).bind fun q1 => (fX7_wholeActs σ).bind fun q2 => some (((q1 : Int32).toInt64) * q2)
section
variable {p : Program} {l : Launch} {e : Env} {s : State} {m : MethodId} {args : Array Value} {below : List Frame} {meth : Method} {c : Code} {D : va_G} {cA : Nat → ClassId} {ad : Nat → Nat → Nat}
set_option maxRecDepth 100000 in
set_option maxHeartbeats 4000000 in
theorem tX7_wholeWorth (l : Launch) (σ : ab_S) {R : Int64} (h : fX7_wholeWorth σ = some R) : ab_M l yC yX7_wholeWorth cX7_wholeWorth 1 (some .long) 2 [.inr (.inr (1, 0))] σ (some (.inr (.inl R))) σ := by
  refine ab_M_intro ndC (by decide) (Nat.le_of_ble_eq_true rfl) ?_
  intro p e s m args below meth c D cA ad C
  have C : ab_C yC p s m args meth c D cA ad cX7_wholeWorth 1 RX7 (some .long) := C
  refine ab_weak (lv' := [some (.inr (.inr (1, 0)))]) ⟨.inr rfl, trivial⟩ ?_
  refine ab_aload_n C dX7_wholeWorth_0 rfl ?_
  obtain ⟨q1, hq1, h⟩ := ab_bind h
  refine ab_inv1 C dX7_wholeWorth_1 mlX7_50 yvX7_together rkC_1 ⟨_, _, rfl⟩ mmC_1 (tX7_together l _ hq1) (Nat.le_of_ble_eq_true rfl) (Nat.le_of_ble_eq_true rfl) rfl (Nat.le_of_ble_eq_true rfl) ?_
  refine ab_i2l C dX7_wholeWorth_4  ?_
  refine ab_aload_n C dX7_wholeWorth_5 rfl ?_
  obtain ⟨q2, hq2, h⟩ := ab_bind h
  refine ab_inv1 C dX7_wholeWorth_6 mlX7_54 yvX7_wholeActs rkC_1 ⟨_, _, rfl⟩ mmC_1 (tX7_wholeActs l _ hq2) (Nat.le_of_ble_eq_true rfl) (Nat.le_of_ble_eq_true rfl) rfl (Nat.le_of_ble_eq_true rfl) ?_
  refine ab_lmul C dX7_wholeWorth_9  ?_
  obtain rfl := Option.some.inj h
  exact ab_lret C dX7_wholeWorth_10
end
def fX7_wonByCode_b4_o (kk4 : Int32 → Int32 → ab_S → Option Int32) (v1 : Int32) (v2 : Int32) (σ : ab_S) : Option Int32 := (if 4 < v2 then some v1 else (fX7_greatestThatSays v2 σ).bind fun q2 => kk4 (v1 + q2) (v2 + 1) σ)
def fX7_wonByCode_b4 : Nat → Int32 → Int32 → ab_S → Option Int32
  | 0 => fun _ _ _ => none
  | n + 1 => fX7_wonByCode_b4_o  (fX7_wonByCode_b4 n)
def fX7_wonByCode (σ : ab_S) : Option Int32 := fX7_wonByCode_b4 ab_N 0 0 σ
section
variable {p : Program} {l : Launch} {e : Env} {s : State} {m : MethodId} {args : Array Value} {below : List Frame} {meth : Method} {c : Code} {D : va_G} {cA : Nat → ClassId} {ad : Nat → Nat → Nat}
set_option maxRecDepth 100000 in
set_option maxHeartbeats 4000000 in
theorem gX7_wonByCode_b4_o {R : Int32} (C : ab_C yC p s m args meth c D cA ad cX7_wonByCode 3 RX7 (some .int)) (σ : ab_S) {kk4 : Int32 → Int32 → ab_S → Option Int32} (hk4 : ∀ (v1 : Int32) (v2 : Int32), kk4 v1 v2 σ = some R → ab_G yC p l e s m args below meth c D cA ad 3 2 (some (.inl R)) σ 4 [some (.inr (.inr (1, 0))), some (.inl v1), some (.inl v2)] [] σ) (v1 : Int32) (v2 : Int32) (h : fX7_wonByCode_b4_o kk4 v1 v2 σ = some R) : ab_G yC p l e s m args below meth c D cA ad 3 2 (some (.inl R)) σ 4 [some (.inr (.inr (1, 0))), some (.inl v1), some (.inl v2)] [] σ := by
  refine ab_iload_n C dX7_wonByCode_4 rfl ?_
  refine ab_iconst C dX7_wonByCode_5 (v := 4) rfl ?_
  refine ab_icmp_gt C (tgt := 23) dX7_wonByCode_6 (by decide) (fun hc1 => ?_) (fun hc1 => ?_)
  · replace h := ab_pos hc1 h
    refine ab_iload_n C dX7_wonByCode_23 rfl ?_
    obtain rfl := Option.some.inj h
    exact ab_iret C dX7_wonByCode_24
  · replace h := ab_neg hc1 h
    refine ab_iload_n C dX7_wonByCode_9 rfl ?_
    refine ab_aload_n C dX7_wonByCode_10 rfl ?_
    refine ab_iload_n C dX7_wonByCode_11 rfl ?_
    obtain ⟨q2, hq2, h⟩ := ab_bind h
    refine ab_inv1 C dX7_wonByCode_12 mlX7_73 yvX7_greatestThatSays rkC_1 ⟨_, _, rfl⟩ mmC_1 (tX7_greatestThatSays l _ _ hq2) (Nat.le_of_ble_eq_true rfl) (Nat.le_of_ble_eq_true rfl) rfl (Nat.le_of_ble_eq_true rfl) ?_
    refine ab_iadd C dX7_wonByCode_15  ?_
    refine ab_istore_n C dX7_wonByCode_16 (Nat.le_of_ble_eq_true rfl) ?_
    refine ab_iinc C dX7_wonByCode_17 rfl (v := 1) rfl (Nat.le_of_ble_eq_true rfl) ?_
    refine ab_goto C (tgt := 4) dX7_wonByCode_20 (by decide) ?_
    refine ab_weak (lv' := [some (.inr (.inr (1, 0))), some (.inl (v1 + q2)), some (.inl (v2 + 1))]) ⟨.inr rfl, ⟨.inr rfl, ⟨.inr rfl, trivial⟩⟩⟩ ?_
    exact hk4 _ _ h
theorem gX7_wonByCode_b4 {R : Int32} (C : ab_C yC p s m args meth c D cA ad cX7_wonByCode 3 RX7 (some .int)) (σ : ab_S) : ∀ (j : Nat) (v1 : Int32) (v2 : Int32), fX7_wonByCode_b4 j v1 v2 σ = some R → ab_G yC p l e s m args below meth c D cA ad 3 2 (some (.inl R)) σ 4 [some (.inr (.inr (1, 0))), some (.inl v1), some (.inl v2)] [] σ := by
  intro j
  induction j with
  | zero => intro v1 v2  h; cases h
  | succ j ih => intro v1 v2  h; exact gX7_wonByCode_b4_o C σ ih _ _ h
set_option maxRecDepth 100000 in
set_option maxHeartbeats 4000000 in
theorem tX7_wonByCode (l : Launch) (σ : ab_S) {R : Int32} (h : fX7_wonByCode σ = some R) : ab_M l yC yX7_wonByCode cX7_wonByCode 3 (some .int) 2 [.inr (.inr (1, 0))] σ (some (.inl R)) σ := by
  refine ab_M_intro ndC (by decide) (Nat.le_of_ble_eq_true rfl) ?_
  intro p e s m args below meth c D cA ad C
  have C : ab_C yC p s m args meth c D cA ad cX7_wonByCode 3 RX7 (some .int) := C
  refine ab_weak (lv' := [some (.inr (.inr (1, 0))), none, none]) ⟨.inr rfl, ⟨.inl rfl, ⟨.inl rfl, trivial⟩⟩⟩ ?_
  refine ab_iconst C dX7_wonByCode_0 (v := 0) rfl ?_
  refine ab_istore_n C dX7_wonByCode_1 (Nat.le_of_ble_eq_true rfl) ?_
  refine ab_iconst C dX7_wonByCode_2 (v := 0) rfl ?_
  refine ab_istore_n C dX7_wonByCode_3 (Nat.le_of_ble_eq_true rfl) ?_
  refine ab_weak (lv' := [some (.inr (.inr (1, 0))), some (.inl 0), some (.inl 0)]) ⟨.inr rfl, ⟨.inr rfl, ⟨.inr rfl, trivial⟩⟩⟩ ?_
  exact gX7_wonByCode_b4 C _ ab_N _ _ h
end
def fX8_isFull_b14 (t0 : Int32) (σ : ab_S) : Option Int32 := (if ab_isb t0 = true then some t0 else none)
def fX8_isFull (σ : ab_S) : Option Int32 := (if (σ.1 18 0 2) < 120 then fX8_isFull_b14 0 σ else fX8_isFull_b14 1 σ)
section
variable {p : Program} {l : Launch} {e : Env} {s : State} {m : MethodId} {args : Array Value} {below : List Frame} {meth : Method} {c : Code} {D : va_G} {cA : Nat → ClassId} {ad : Nat → Nat → Nat}
set_option maxRecDepth 100000 in
set_option maxHeartbeats 4000000 in
theorem gX8_isFull_b14 {R : Int32} (C : ab_C yC p s m args meth c D cA ad cX8_isFull 1 RX8 (some .boolean)) (σ : ab_S) (t0 : Int32) (h : fX8_isFull_b14 t0 σ = some R) : ab_G yC p l e s m args below meth c D cA ad 1 0 (some (.inl R)) σ 14 [none] [.inl t0] σ := by
  obtain ⟨hg1, h⟩ := ab_grd h
  obtain rfl := Option.some.inj h
  exact ab_zret C dX8_isFull_14 hg1
set_option maxRecDepth 100000 in
set_option maxHeartbeats 4000000 in
theorem tX8_isFull (l : Launch) (σ : ab_S) {R : Int32} (h : fX8_isFull σ = some R) : ab_M l yC yX8_isFull cX8_isFull 1 (some .boolean) 0 [.inr (.inr (18, 0))] σ (some (.inl R)) σ := by
  refine ab_M_intro ndC (by decide) (Nat.le_of_ble_eq_true rfl) ?_
  intro p e s m args below meth c D cA ad C
  have C : ab_C yC p s m args meth c D cA ad cX8_isFull 1 RX8 (some .boolean) := C
  refine ab_weak (lv' := [some (.inr (.inr (18, 0)))]) ⟨.inr rfl, trivial⟩ ?_
  refine ab_aload_n C dX8_isFull_0 rfl ?_
  refine ab_getI C dX8_isFull_1 flX8_20 rkC_18 rfl mmC_18 ?_
  refine ab_bipush C dX8_isFull_4 (v := 120) rfl ?_
  refine ab_icmp_lt C (tgt := 13) dX8_isFull_6 (by decide) (fun hc1 => ?_) (fun hc1 => ?_)
  · replace h := ab_pos hc1 h
    refine ab_iconst C dX8_isFull_13 (v := 0) rfl ?_
    refine ab_weak (lv' := [none]) ⟨.inl rfl, trivial⟩ ?_
    exact gX8_isFull_b14 C _ _ h
  · replace h := ab_neg hc1 h
    refine ab_iconst C dX8_isFull_9 (v := 1) rfl ?_
    refine ab_goto C (tgt := 14) dX8_isFull_10 (by decide) ?_
    refine ab_weak (lv' := [none]) ⟨.inl rfl, trivial⟩ ?_
    exact gX8_isFull_b14 C _ _ h
end
def fX8_append (x1 : Int32) (σ : ab_S) : Option (Int32 × ab_S) := (fX8_isFull σ).bind fun q1 => (if q1 = 0 then (if ab_inb (σ.1 18 0 2) 120 = true then ab_k (ab_si σ 19 0 ((σ.1 18 0 2).toNatClampNeg) x1) fun σ4 => ab_k (ab_si σ4 18 0 2 ((σ4.1 18 0 2) + 1)) fun σ5 => some (σ5.1 18 0 2, σ5) else none) else some ((-3), σ))
section
variable {p : Program} {l : Launch} {e : Env} {s : State} {m : MethodId} {args : Array Value} {below : List Frame} {meth : Method} {c : Code} {D : va_G} {cA : Nat → ClassId} {ad : Nat → Nat → Nat}
set_option maxRecDepth 100000 in
set_option maxHeartbeats 4000000 in
theorem tX8_append (l : Launch) (x1 : Int32) (σ : ab_S) {R : (Int32 × ab_S)} (h : fX8_append x1 σ = some R) : ab_M l yC yX8_append cX8_append 2 (some .int) 1 [.inr (.inr (18, 0)), .inl x1] σ (some (.inl R.1)) R.2 := by
  refine ab_M_intro ndC (by decide) (Nat.le_of_ble_eq_true rfl) ?_
  intro p e s m args below meth c D cA ad C
  have C : ab_C yC p s m args meth c D cA ad cX8_append 2 RX8 (some .int) := C
  refine ab_weak (lv' := [some (.inr (.inr (18, 0))), some (.inl x1)]) ⟨.inr rfl, ⟨.inr rfl, trivial⟩⟩ ?_
  refine ab_aload_n C dX8_append_0 rfl ?_
  obtain ⟨q1, hq1, h⟩ := ab_bind h
  refine ab_inv1 C dX8_append_1 mlX8_24 yvX8_isFull rkC_18 ⟨_, _, rfl⟩ mmC_18 (tX8_isFull l _ hq1) (Nat.le_of_ble_eq_true rfl) (Nat.le_of_ble_eq_true rfl) rfl (Nat.le_of_ble_eq_true rfl) ?_
  refine ab_if_eq C (tgt := 10) dX8_append_4 (by decide) (fun hc2 => ?_) (fun hc2 => ?_)
  · replace h := ab_pos hc2 h
    refine ab_aload_n C dX8_append_10 rfl ?_
    refine ab_getR C dX8_append_11 flX8_11 rkC_18 rfl mmC_18 ?_
    refine ab_aload_n C dX8_append_14 rfl ?_
    refine ab_getI C dX8_append_15 flX8_20 rkC_18 rfl mmC_18 ?_
    refine ab_iload_n C dX8_append_18 rfl ?_
    obtain ⟨hg3, h⟩ := ab_grd h
    refine ab_iast C dX8_append_19 rkC_19 mmC_19 hg3 ?_
    refine ab_nmS (fun σ4 eσ4 => ?_)
    replace h := ab_kh eσ4 h
    refine ab_aload_n C dX8_append_20 rfl ?_
    refine ab_dup C dX8_append_21 rfl ?_
    refine ab_getI C dX8_append_22 flX8_20 rkC_18 rfl mmC_18 ?_
    refine ab_iconst C dX8_append_25 (v := 1) rfl ?_
    refine ab_iadd C dX8_append_26  ?_
    refine ab_putI C dX8_append_27 fpX8_20 rkC_18 rfl mmC_18 rfl rfl ?_
    refine ab_nmS (fun σ5 eσ5 => ?_)
    replace h := ab_kh eσ5 h
    refine ab_aload_n C dX8_append_30 rfl ?_
    refine ab_getI C dX8_append_31 flX8_20 rkC_18 rfl mmC_18 ?_
    obtain rfl := Option.some.inj h
    exact ab_iret C dX8_append_34
  · replace h := ab_neg hc2 h
    refine ab_bipush C dX8_append_7 (v := (-3)) rfl ?_
    obtain rfl := Option.some.inj h
    exact ab_iret C dX8_append_9
end
def fX8_emit (x1 : Int32) (σ : ab_S) : Option ab_S := (if (σ.1 18 0 3) < (Int32.ofNat 121) then (if ab_inb (σ.1 18 0 3) 121 = true then ab_k (ab_si σ 20 0 ((σ.1 18 0 3).toNatClampNeg) x1) fun σ3 => ab_k (ab_si σ3 18 0 3 ((σ3.1 18 0 3) + 1)) fun σ4 => some σ4 else none) else some σ)
section
variable {p : Program} {l : Launch} {e : Env} {s : State} {m : MethodId} {args : Array Value} {below : List Frame} {meth : Method} {c : Code} {D : va_G} {cA : Nat → ClassId} {ad : Nat → Nat → Nat}
set_option maxRecDepth 100000 in
set_option maxHeartbeats 4000000 in
theorem tX8_emit (l : Launch) (x1 : Int32) (σ : ab_S) {R : ab_S} (h : fX8_emit x1 σ = some R) : ab_M l yC yX8_emit cX8_emit 2 none 0 [.inr (.inr (18, 0)), .inl x1] σ none R := by
  refine ab_M_intro ndC (by decide) (Nat.le_of_ble_eq_true rfl) ?_
  intro p e s m args below meth c D cA ad C
  have C : ab_C yC p s m args meth c D cA ad cX8_emit 2 RX8 none := C
  refine ab_weak (lv' := [some (.inr (.inr (18, 0))), some (.inl x1)]) ⟨.inr rfl, ⟨.inr rfl, trivial⟩⟩ ?_
  refine ab_aload_n C dX8_emit_0 rfl ?_
  refine ab_getI C dX8_emit_1 flX8_31 rkC_18 rfl mmC_18 ?_
  refine ab_aload_n C dX8_emit_4 rfl ?_
  refine ab_getR C dX8_emit_5 flX8_17 rkC_18 rfl mmC_18 ?_
  refine ab_alen C dX8_emit_8 rkC_20 (Nat.le_of_ble_eq_true rfl) mmC_20 ?_
  refine ab_icmp_lt C (tgt := 13) dX8_emit_9 (by decide) (fun hc1 => ?_) (fun hc1 => ?_)
  · replace h := ab_pos hc1 h
    refine ab_aload_n C dX8_emit_13 rfl ?_
    refine ab_getR C dX8_emit_14 flX8_17 rkC_18 rfl mmC_18 ?_
    refine ab_aload_n C dX8_emit_17 rfl ?_
    refine ab_getI C dX8_emit_18 flX8_31 rkC_18 rfl mmC_18 ?_
    refine ab_iload_n C dX8_emit_21 rfl ?_
    obtain ⟨hg2, h⟩ := ab_grd h
    refine ab_iast C dX8_emit_22 rkC_20 mmC_20 hg2 ?_
    refine ab_nmS (fun σ3 eσ3 => ?_)
    replace h := ab_kh eσ3 h
    refine ab_aload_n C dX8_emit_23 rfl ?_
    refine ab_dup C dX8_emit_24 rfl ?_
    refine ab_getI C dX8_emit_25 flX8_31 rkC_18 rfl mmC_18 ?_
    refine ab_iconst C dX8_emit_28 (v := 1) rfl ?_
    refine ab_iadd C dX8_emit_29  ?_
    refine ab_putI C dX8_emit_30 fpX8_31 rkC_18 rfl mmC_18 rfl rfl ?_
    refine ab_nmS (fun σ4 eσ4 => ?_)
    replace h := ab_kh eσ4 h
    obtain rfl := Option.some.inj h
    exact ab_vret C dX8_emit_33
  · replace h := ab_neg hc1 h
    obtain rfl := Option.some.inj h
    exact ab_vret C dX8_emit_12
end
def fX8_isJoint_b43 (t0 : Int32) : Option Int32 := (if ab_isb t0 = true then some t0 else none)
def fX8_isJoint_b55 (t0 : Int32) : Option Int32 := (if ab_isb t0 = true then some t0 else none)
def fX8_isJoint_b79 (t0 : Int32) : Option Int32 := (if ab_isb t0 = true then some t0 else none)
def fX8_isJoint_b74 : Option Int32 := fX8_isJoint_b79 1
def fX8_isJoint_b97 (t0 : Int32) : Option Int32 := (if ab_isb t0 = true then some t0 else none)
def fX8_isJoint_b92 : Option Int32 := fX8_isJoint_b97 1
def fX8_isJoint_b121 (t0 : Int32) : Option Int32 := (if ab_isb t0 = true then some t0 else none)
def fX8_isJoint_b116 : Option Int32 := fX8_isJoint_b121 1
def fX8_isJoint (x0 : Int32) (x1 : Int32) : Option Int32 := (if x0 = 0 then (if x1 = 124 then fX8_isJoint_b43 1 else fX8_isJoint_b43 0) else (if x0 = 1 then (if x1 = 38 then fX8_isJoint_b55 1 else fX8_isJoint_b55 0) else (if x0 = 2 then (if x1 = 60 then fX8_isJoint_b74 else (if x1 = 61 then fX8_isJoint_b74 else (if x1 = 62 then fX8_isJoint_b74 else fX8_isJoint_b79 0))) else (if x0 = 3 then (if x1 = 43 then fX8_isJoint_b92 else (if x1 = 45 then fX8_isJoint_b92 else fX8_isJoint_b97 0)) else (if x1 = 42 then fX8_isJoint_b116 else (if x1 = 47 then fX8_isJoint_b116 else (if x1 = 37 then fX8_isJoint_b116 else fX8_isJoint_b121 0)))))))
section
variable {p : Program} {l : Launch} {e : Env} {s : State} {m : MethodId} {args : Array Value} {below : List Frame} {meth : Method} {c : Code} {D : va_G} {cA : Nat → ClassId} {ad : Nat → Nat → Nat}
set_option maxRecDepth 100000 in
set_option maxHeartbeats 4000000 in
theorem gX8_isJoint_b43 {R : Int32} (C : ab_C yC p s m args meth c D cA ad cX8_isJoint 2 RX8 (some .boolean)) {σ : ab_S} (t0 : Int32) (h : fX8_isJoint_b43 t0 = some R) : ab_G yC p l e s m args below meth c D cA ad 2 0 (some (.inl R)) σ 43 [none, none] [.inl t0] σ := by
  obtain ⟨hg1, h⟩ := ab_grd h
  obtain rfl := Option.some.inj h
  exact ab_zret C dX8_isJoint_43 hg1
set_option maxRecDepth 100000 in
set_option maxHeartbeats 4000000 in
theorem gX8_isJoint_b55 {R : Int32} (C : ab_C yC p s m args meth c D cA ad cX8_isJoint 2 RX8 (some .boolean)) {σ : ab_S} (t0 : Int32) (h : fX8_isJoint_b55 t0 = some R) : ab_G yC p l e s m args below meth c D cA ad 2 0 (some (.inl R)) σ 55 [none, none] [.inl t0] σ := by
  obtain ⟨hg1, h⟩ := ab_grd h
  obtain rfl := Option.some.inj h
  exact ab_zret C dX8_isJoint_55 hg1
set_option maxRecDepth 100000 in
set_option maxHeartbeats 4000000 in
theorem gX8_isJoint_b79 {R : Int32} (C : ab_C yC p s m args meth c D cA ad cX8_isJoint 2 RX8 (some .boolean)) {σ : ab_S} (t0 : Int32) (h : fX8_isJoint_b79 t0 = some R) : ab_G yC p l e s m args below meth c D cA ad 2 0 (some (.inl R)) σ 79 [none, none] [.inl t0] σ := by
  obtain ⟨hg1, h⟩ := ab_grd h
  obtain rfl := Option.some.inj h
  exact ab_zret C dX8_isJoint_79 hg1
set_option maxRecDepth 100000 in
set_option maxHeartbeats 4000000 in
theorem gX8_isJoint_b74 {R : Int32} (C : ab_C yC p s m args meth c D cA ad cX8_isJoint 2 RX8 (some .boolean)) {σ : ab_S} (h : fX8_isJoint_b74 = some R) : ab_G yC p l e s m args below meth c D cA ad 2 0 (some (.inl R)) σ 74 [none, none] [] σ := by
  refine ab_iconst C dX8_isJoint_74 (v := 1) rfl ?_
  refine ab_goto C (tgt := 79) dX8_isJoint_75 (by decide) ?_
  refine ab_weak (lv' := [none, none]) ⟨.inl rfl, ⟨.inl rfl, trivial⟩⟩ ?_
  exact gX8_isJoint_b79 C _ h
set_option maxRecDepth 100000 in
set_option maxHeartbeats 4000000 in
theorem gX8_isJoint_b97 {R : Int32} (C : ab_C yC p s m args meth c D cA ad cX8_isJoint 2 RX8 (some .boolean)) {σ : ab_S} (t0 : Int32) (h : fX8_isJoint_b97 t0 = some R) : ab_G yC p l e s m args below meth c D cA ad 2 0 (some (.inl R)) σ 97 [none, none] [.inl t0] σ := by
  obtain ⟨hg1, h⟩ := ab_grd h
  obtain rfl := Option.some.inj h
  exact ab_zret C dX8_isJoint_97 hg1
set_option maxRecDepth 100000 in
set_option maxHeartbeats 4000000 in
theorem gX8_isJoint_b92 {R : Int32} (C : ab_C yC p s m args meth c D cA ad cX8_isJoint 2 RX8 (some .boolean)) {σ : ab_S} (h : fX8_isJoint_b92 = some R) : ab_G yC p l e s m args below meth c D cA ad 2 0 (some (.inl R)) σ 92 [none, none] [] σ := by
  refine ab_iconst C dX8_isJoint_92 (v := 1) rfl ?_
  refine ab_goto C (tgt := 97) dX8_isJoint_93 (by decide) ?_
  refine ab_weak (lv' := [none, none]) ⟨.inl rfl, ⟨.inl rfl, trivial⟩⟩ ?_
  exact gX8_isJoint_b97 C _ h
set_option maxRecDepth 100000 in
set_option maxHeartbeats 4000000 in
theorem gX8_isJoint_b121 {R : Int32} (C : ab_C yC p s m args meth c D cA ad cX8_isJoint 2 RX8 (some .boolean)) {σ : ab_S} (t0 : Int32) (h : fX8_isJoint_b121 t0 = some R) : ab_G yC p l e s m args below meth c D cA ad 2 0 (some (.inl R)) σ 121 [none, none] [.inl t0] σ := by
  obtain ⟨hg1, h⟩ := ab_grd h
  obtain rfl := Option.some.inj h
  exact ab_zret C dX8_isJoint_121 hg1
set_option maxRecDepth 100000 in
set_option maxHeartbeats 4000000 in
theorem gX8_isJoint_b116 {R : Int32} (C : ab_C yC p s m args meth c D cA ad cX8_isJoint 2 RX8 (some .boolean)) {σ : ab_S} (h : fX8_isJoint_b116 = some R) : ab_G yC p l e s m args below meth c D cA ad 2 0 (some (.inl R)) σ 116 [none, none] [] σ := by
  refine ab_iconst C dX8_isJoint_116 (v := 1) rfl ?_
  refine ab_goto C (tgt := 121) dX8_isJoint_117 (by decide) ?_
  refine ab_weak (lv' := [none, none]) ⟨.inl rfl, ⟨.inl rfl, trivial⟩⟩ ?_
  exact gX8_isJoint_b121 C _ h
set_option maxRecDepth 100000 in
set_option maxHeartbeats 4000000 in
theorem tX8_isJoint (l : Launch) (x0 : Int32) (x1 : Int32) (σ : ab_S) {R : Int32} (h : fX8_isJoint x0 x1 = some R) : ab_M l yC yX8_isJoint cX8_isJoint 2 (some .boolean) 0 [.inl x0, .inl x1] σ (some (.inl R)) σ := by
  refine ab_M_intro ndC (by decide) (Nat.le_of_ble_eq_true rfl) ?_
  intro p e s m args below meth c D cA ad C
  have C : ab_C yC p s m args meth c D cA ad cX8_isJoint 2 RX8 (some .boolean) := C
  refine ab_weak (lv' := [some (.inl x0), some (.inl x1)]) ⟨.inr rfl, ⟨.inr rfl, trivial⟩⟩ ?_
  refine ab_iload_n C dX8_isJoint_0 rfl ?_
  by_cases hc1 : x0 = 0
  · replace h := ab_pos hc1 h
    refine ab_tswIn C (tgt := 32) dX8_isJoint_1.1 0 (by rw [hc1]; decide) (by decide) (by decide) rfl (by decide) ?_
    refine ab_iload_n C dX8_isJoint_32 rfl ?_
    refine ab_bipush C dX8_isJoint_33 (v := 124) rfl ?_
    refine ab_icmp_ne C (tgt := 42) dX8_isJoint_35 (by decide) (fun hc2 => ?_) (fun hc2 => ?_)
    · replace h := ab_neg hc2 h
      refine ab_iconst C dX8_isJoint_42 (v := 0) rfl ?_
      refine ab_weak (lv' := [none, none]) ⟨.inl rfl, ⟨.inl rfl, trivial⟩⟩ ?_
      exact gX8_isJoint_b43 C _ h
    · replace h := ab_pos hc2 h
      refine ab_iconst C dX8_isJoint_38 (v := 1) rfl ?_
      refine ab_goto C (tgt := 43) dX8_isJoint_39 (by decide) ?_
      refine ab_weak (lv' := [none, none]) ⟨.inl rfl, ⟨.inl rfl, trivial⟩⟩ ?_
      exact gX8_isJoint_b43 C _ h
  · replace h := ab_neg hc1 h
    by_cases hc3 : x0 = 1
    · replace h := ab_pos hc3 h
      refine ab_tswIn C (tgt := 44) dX8_isJoint_1.1 1 (by rw [hc3]; decide) (by decide) (by decide) rfl (by decide) ?_
      refine ab_iload_n C dX8_isJoint_44 rfl ?_
      refine ab_bipush C dX8_isJoint_45 (v := 38) rfl ?_
      refine ab_icmp_ne C (tgt := 54) dX8_isJoint_47 (by decide) (fun hc4 => ?_) (fun hc4 => ?_)
      · replace h := ab_neg hc4 h
        refine ab_iconst C dX8_isJoint_54 (v := 0) rfl ?_
        refine ab_weak (lv' := [none, none]) ⟨.inl rfl, ⟨.inl rfl, trivial⟩⟩ ?_
        exact gX8_isJoint_b55 C _ h
      · replace h := ab_pos hc4 h
        refine ab_iconst C dX8_isJoint_50 (v := 1) rfl ?_
        refine ab_goto C (tgt := 55) dX8_isJoint_51 (by decide) ?_
        refine ab_weak (lv' := [none, none]) ⟨.inl rfl, ⟨.inl rfl, trivial⟩⟩ ?_
        exact gX8_isJoint_b55 C _ h
    · replace h := ab_neg hc3 h
      by_cases hc5 : x0 = 2
      · replace h := ab_pos hc5 h
        refine ab_tswIn C (tgt := 56) dX8_isJoint_1.1 2 (by rw [hc5]; decide) (by decide) (by decide) rfl (by decide) ?_
        refine ab_iload_n C dX8_isJoint_56 rfl ?_
        refine ab_bipush C dX8_isJoint_57 (v := 60) rfl ?_
        refine ab_icmp_eq C (tgt := 74) dX8_isJoint_59 (by decide) (fun hc6 => ?_) (fun hc6 => ?_)
        · replace h := ab_pos hc6 h
          refine ab_weak (lv' := [none, none]) ⟨.inl rfl, ⟨.inl rfl, trivial⟩⟩ ?_
          exact gX8_isJoint_b74 C h
        · replace h := ab_neg hc6 h
          refine ab_iload_n C dX8_isJoint_62 rfl ?_
          refine ab_bipush C dX8_isJoint_63 (v := 61) rfl ?_
          refine ab_icmp_eq C (tgt := 74) dX8_isJoint_65 (by decide) (fun hc7 => ?_) (fun hc7 => ?_)
          · replace h := ab_pos hc7 h
            refine ab_weak (lv' := [none, none]) ⟨.inl rfl, ⟨.inl rfl, trivial⟩⟩ ?_
            exact gX8_isJoint_b74 C h
          · replace h := ab_neg hc7 h
            refine ab_iload_n C dX8_isJoint_68 rfl ?_
            refine ab_bipush C dX8_isJoint_69 (v := 62) rfl ?_
            refine ab_icmp_ne C (tgt := 78) dX8_isJoint_71 (by decide) (fun hc8 => ?_) (fun hc8 => ?_)
            · replace h := ab_neg hc8 h
              refine ab_iconst C dX8_isJoint_78 (v := 0) rfl ?_
              refine ab_weak (lv' := [none, none]) ⟨.inl rfl, ⟨.inl rfl, trivial⟩⟩ ?_
              exact gX8_isJoint_b79 C _ h
            · replace h := ab_pos hc8 h
              refine ab_weak (lv' := [none, none]) ⟨.inl rfl, ⟨.inl rfl, trivial⟩⟩ ?_
              exact gX8_isJoint_b74 C h
      · replace h := ab_neg hc5 h
        by_cases hc9 : x0 = 3
        · replace h := ab_pos hc9 h
          refine ab_tswIn C (tgt := 80) dX8_isJoint_1.1 3 (by rw [hc9]; decide) (by decide) (by decide) rfl (by decide) ?_
          refine ab_iload_n C dX8_isJoint_80 rfl ?_
          refine ab_bipush C dX8_isJoint_81 (v := 43) rfl ?_
          refine ab_icmp_eq C (tgt := 92) dX8_isJoint_83 (by decide) (fun hc10 => ?_) (fun hc10 => ?_)
          · replace h := ab_pos hc10 h
            refine ab_weak (lv' := [none, none]) ⟨.inl rfl, ⟨.inl rfl, trivial⟩⟩ ?_
            exact gX8_isJoint_b92 C h
          · replace h := ab_neg hc10 h
            refine ab_iload_n C dX8_isJoint_86 rfl ?_
            refine ab_bipush C dX8_isJoint_87 (v := 45) rfl ?_
            refine ab_icmp_ne C (tgt := 96) dX8_isJoint_89 (by decide) (fun hc11 => ?_) (fun hc11 => ?_)
            · replace h := ab_neg hc11 h
              refine ab_iconst C dX8_isJoint_96 (v := 0) rfl ?_
              refine ab_weak (lv' := [none, none]) ⟨.inl rfl, ⟨.inl rfl, trivial⟩⟩ ?_
              exact gX8_isJoint_b97 C _ h
            · replace h := ab_pos hc11 h
              refine ab_weak (lv' := [none, none]) ⟨.inl rfl, ⟨.inl rfl, trivial⟩⟩ ?_
              exact gX8_isJoint_b92 C h
        · replace h := ab_neg hc9 h
          refine ab_tswOut C (tgt := 98) dX8_isJoint_1.1 (by have a0 := lv_neT hc1 (a := 0) (by decide); have a1 := lv_neT hc3 (a := 1) (by decide); have a2 := lv_neT hc5 (a := 2) (by decide); have a3 := lv_neT hc9 (a := 3) (by decide); omega) (by decide) ?_
          refine ab_iload_n C dX8_isJoint_98 rfl ?_
          refine ab_bipush C dX8_isJoint_99 (v := 42) rfl ?_
          refine ab_icmp_eq C (tgt := 116) dX8_isJoint_101 (by decide) (fun hc12 => ?_) (fun hc12 => ?_)
          · replace h := ab_pos hc12 h
            refine ab_weak (lv' := [none, none]) ⟨.inl rfl, ⟨.inl rfl, trivial⟩⟩ ?_
            exact gX8_isJoint_b116 C h
          · replace h := ab_neg hc12 h
            refine ab_iload_n C dX8_isJoint_104 rfl ?_
            refine ab_bipush C dX8_isJoint_105 (v := 47) rfl ?_
            refine ab_icmp_eq C (tgt := 116) dX8_isJoint_107 (by decide) (fun hc13 => ?_) (fun hc13 => ?_)
            · replace h := ab_pos hc13 h
              refine ab_weak (lv' := [none, none]) ⟨.inl rfl, ⟨.inl rfl, trivial⟩⟩ ?_
              exact gX8_isJoint_b116 C h
            · replace h := ab_neg hc13 h
              refine ab_iload_n C dX8_isJoint_110 rfl ?_
              refine ab_bipush C dX8_isJoint_111 (v := 37) rfl ?_
              refine ab_icmp_ne C (tgt := 120) dX8_isJoint_113 (by decide) (fun hc14 => ?_) (fun hc14 => ?_)
              · replace h := ab_neg hc14 h
                refine ab_iconst C dX8_isJoint_120 (v := 0) rfl ?_
                refine ab_weak (lv' := [none, none]) ⟨.inl rfl, ⟨.inl rfl, trivial⟩⟩ ?_
                exact gX8_isJoint_b121 C _ h
              · replace h := ab_pos hc14 h
                refine ab_weak (lv' := [none, none]) ⟨.inl rfl, ⟨.inl rfl, trivial⟩⟩ ?_
                exact gX8_isJoint_b116 C h
end
def fX8_letter_b40 (t0 : Int32) (σ : ab_S) : Option Int32 := some t0
def fX8_letter_b39 (σ : ab_S) : Option Int32 := fX8_letter_b40 ((-1)) σ
def fX8_letter (σ : ab_S) : Option Int32 := (if (σ.1 18 0 4) < 0 then fX8_letter_b39 σ else (if (σ.1 18 0 2) ≤ (σ.1 18 0 4) then fX8_letter_b39 σ else (if 120 ≤ (σ.1 18 0 4) then fX8_letter_b39 σ else (if ab_inb (σ.1 18 0 4) 120 = true then fX8_letter_b40 (σ.1 19 0 ((σ.1 18 0 4).toNatClampNeg)) σ else none))))
section
variable {p : Program} {l : Launch} {e : Env} {s : State} {m : MethodId} {args : Array Value} {below : List Frame} {meth : Method} {c : Code} {D : va_G} {cA : Nat → ClassId} {ad : Nat → Nat → Nat}
set_option maxRecDepth 100000 in
set_option maxHeartbeats 4000000 in
theorem gX8_letter_b40 {R : Int32} (C : ab_C yC p s m args meth c D cA ad cX8_letter 1 RX8 (some .int)) (σ : ab_S) (t0 : Int32) (h : fX8_letter_b40 t0 σ = some R) : ab_G yC p l e s m args below meth c D cA ad 1 0 (some (.inl R)) σ 40 [none] [.inl t0] σ := by
  obtain rfl := Option.some.inj h
  exact ab_iret C dX8_letter_40
set_option maxRecDepth 100000 in
set_option maxHeartbeats 4000000 in
theorem gX8_letter_b39 {R : Int32} (C : ab_C yC p s m args meth c D cA ad cX8_letter 1 RX8 (some .int)) (σ : ab_S) (h : fX8_letter_b39 σ = some R) : ab_G yC p l e s m args below meth c D cA ad 1 0 (some (.inl R)) σ 39 [none] [] σ := by
  refine ab_iconst C dX8_letter_39 (v := (-1)) rfl ?_
  refine ab_weak (lv' := [none]) ⟨.inl rfl, trivial⟩ ?_
  exact gX8_letter_b40 C _ _ h
set_option maxRecDepth 100000 in
set_option maxHeartbeats 4000000 in
theorem tX8_letter (l : Launch) (σ : ab_S) {R : Int32} (h : fX8_letter σ = some R) : ab_M l yC yX8_letter cX8_letter 1 (some .int) 0 [.inr (.inr (18, 0))] σ (some (.inl R)) σ := by
  refine ab_M_intro ndC (by decide) (Nat.le_of_ble_eq_true rfl) ?_
  intro p e s m args below meth c D cA ad C
  have C : ab_C yC p s m args meth c D cA ad cX8_letter 1 RX8 (some .int) := C
  refine ab_weak (lv' := [some (.inr (.inr (18, 0)))]) ⟨.inr rfl, trivial⟩ ?_
  refine ab_aload_n C dX8_letter_0 rfl ?_
  refine ab_getI C dX8_letter_1 flX8_28 rkC_18 rfl mmC_18 ?_
  refine ab_if_lt C (tgt := 39) dX8_letter_4 (by decide) (fun hc1 => ?_) (fun hc1 => ?_)
  · replace h := ab_pos hc1 h
    refine ab_weak (lv' := [none]) ⟨.inl rfl, trivial⟩ ?_
    exact gX8_letter_b39 C _ h
  · replace h := ab_neg hc1 h
    refine ab_aload_n C dX8_letter_7 rfl ?_
    refine ab_getI C dX8_letter_8 flX8_28 rkC_18 rfl mmC_18 ?_
    refine ab_aload_n C dX8_letter_11 rfl ?_
    refine ab_getI C dX8_letter_12 flX8_20 rkC_18 rfl mmC_18 ?_
    refine ab_icmp_ge C (tgt := 39) dX8_letter_15 (by decide) (fun hc2 => ?_) (fun hc2 => ?_)
    · replace h := ab_pos hc2 h
      refine ab_weak (lv' := [none]) ⟨.inl rfl, trivial⟩ ?_
      exact gX8_letter_b39 C _ h
    · replace h := ab_neg hc2 h
      refine ab_aload_n C dX8_letter_18 rfl ?_
      refine ab_getI C dX8_letter_19 flX8_28 rkC_18 rfl mmC_18 ?_
      refine ab_bipush C dX8_letter_22 (v := 120) rfl ?_
      refine ab_icmp_ge C (tgt := 39) dX8_letter_24 (by decide) (fun hc3 => ?_) (fun hc3 => ?_)
      · replace h := ab_pos hc3 h
        refine ab_weak (lv' := [none]) ⟨.inl rfl, trivial⟩ ?_
        exact gX8_letter_b39 C _ h
      · replace h := ab_neg hc3 h
        refine ab_aload_n C dX8_letter_27 rfl ?_
        refine ab_getR C dX8_letter_28 flX8_11 rkC_18 rfl mmC_18 ?_
        refine ab_aload_n C dX8_letter_31 rfl ?_
        refine ab_getI C dX8_letter_32 flX8_28 rkC_18 rfl mmC_18 ?_
        obtain ⟨hg4, h⟩ := ab_grd h
        refine ab_iald C dX8_letter_35 rkC_19 mmC_19 hg4 ?_
        refine ab_goto C (tgt := 40) dX8_letter_36 (by decide) ?_
        refine ab_weak (lv' := [none]) ⟨.inl rfl, trivial⟩ ?_
        exact gX8_letter_b40 C _ _ h
end
def fX8_isDigit_b17 (t0 : Int32) : Option Int32 := (if ab_isb t0 = true then some t0 else none)
def fX8_isDigit_b16 : Option Int32 := fX8_isDigit_b17 0
def fX8_isDigit (x0 : Int32) : Option Int32 := (if x0 < 48 then fX8_isDigit_b16 else (if 57 < x0 then fX8_isDigit_b16 else fX8_isDigit_b17 1))
section
variable {p : Program} {l : Launch} {e : Env} {s : State} {m : MethodId} {args : Array Value} {below : List Frame} {meth : Method} {c : Code} {D : va_G} {cA : Nat → ClassId} {ad : Nat → Nat → Nat}
set_option maxRecDepth 100000 in
set_option maxHeartbeats 4000000 in
theorem gX8_isDigit_b17 {R : Int32} (C : ab_C yC p s m args meth c D cA ad cX8_isDigit 1 RX8 (some .boolean)) {σ : ab_S} (t0 : Int32) (h : fX8_isDigit_b17 t0 = some R) : ab_G yC p l e s m args below meth c D cA ad 1 0 (some (.inl R)) σ 17 [none] [.inl t0] σ := by
  obtain ⟨hg1, h⟩ := ab_grd h
  obtain rfl := Option.some.inj h
  exact ab_zret C dX8_isDigit_17 hg1
set_option maxRecDepth 100000 in
set_option maxHeartbeats 4000000 in
theorem gX8_isDigit_b16 {R : Int32} (C : ab_C yC p s m args meth c D cA ad cX8_isDigit 1 RX8 (some .boolean)) {σ : ab_S} (h : fX8_isDigit_b16 = some R) : ab_G yC p l e s m args below meth c D cA ad 1 0 (some (.inl R)) σ 16 [none] [] σ := by
  refine ab_iconst C dX8_isDigit_16 (v := 0) rfl ?_
  refine ab_weak (lv' := [none]) ⟨.inl rfl, trivial⟩ ?_
  exact gX8_isDigit_b17 C _ h
set_option maxRecDepth 100000 in
set_option maxHeartbeats 4000000 in
theorem tX8_isDigit (l : Launch) (x0 : Int32) (σ : ab_S) {R : Int32} (h : fX8_isDigit x0 = some R) : ab_M l yC yX8_isDigit cX8_isDigit 1 (some .boolean) 0 [.inl x0] σ (some (.inl R)) σ := by
  refine ab_M_intro ndC (by decide) (Nat.le_of_ble_eq_true rfl) ?_
  intro p e s m args below meth c D cA ad C
  have C : ab_C yC p s m args meth c D cA ad cX8_isDigit 1 RX8 (some .boolean) := C
  refine ab_weak (lv' := [some (.inl x0)]) ⟨.inr rfl, trivial⟩ ?_
  refine ab_iload_n C dX8_isDigit_0 rfl ?_
  refine ab_bipush C dX8_isDigit_1 (v := 48) rfl ?_
  refine ab_icmp_lt C (tgt := 16) dX8_isDigit_3 (by decide) (fun hc1 => ?_) (fun hc1 => ?_)
  · replace h := ab_pos hc1 h
    refine ab_weak (lv' := [none]) ⟨.inl rfl, trivial⟩ ?_
    exact gX8_isDigit_b16 C h
  · replace h := ab_neg hc1 h
    refine ab_iload_n C dX8_isDigit_6 rfl ?_
    refine ab_bipush C dX8_isDigit_7 (v := 57) rfl ?_
    refine ab_icmp_gt C (tgt := 16) dX8_isDigit_9 (by decide) (fun hc2 => ?_) (fun hc2 => ?_)
    · replace h := ab_pos hc2 h
      refine ab_weak (lv' := [none]) ⟨.inl rfl, trivial⟩ ?_
      exact gX8_isDigit_b16 C h
    · replace h := ab_neg hc2 h
      refine ab_iconst C dX8_isDigit_12 (v := 1) rfl ?_
      refine ab_goto C (tgt := 17) dX8_isDigit_13 (by decide) ?_
      refine ab_weak (lv' := [none]) ⟨.inl rfl, trivial⟩ ?_
      exact gX8_isDigit_b17 C _ h
end
def fX8_isName_b41 (t0 : Int32) : Option Int32 := (if ab_isb t0 = true then some t0 else none)
def fX8_isName_b36 : Option Int32 := fX8_isName_b41 1
def fX8_isName (x0 : Int32) : Option Int32 := (if x0 = 100 then fX8_isName_b36 else (if x0 = 120 then fX8_isName_b36 else (if x0 = 99 then fX8_isName_b36 else (if x0 = 110 then fX8_isName_b36 else (if x0 = 114 then fX8_isName_b36 else (if x0 = 97 then fX8_isName_b36 else fX8_isName_b41 0))))))
section
variable {p : Program} {l : Launch} {e : Env} {s : State} {m : MethodId} {args : Array Value} {below : List Frame} {meth : Method} {c : Code} {D : va_G} {cA : Nat → ClassId} {ad : Nat → Nat → Nat}
set_option maxRecDepth 100000 in
set_option maxHeartbeats 4000000 in
theorem gX8_isName_b41 {R : Int32} (C : ab_C yC p s m args meth c D cA ad cX8_isName 1 RX8 (some .boolean)) {σ : ab_S} (t0 : Int32) (h : fX8_isName_b41 t0 = some R) : ab_G yC p l e s m args below meth c D cA ad 1 0 (some (.inl R)) σ 41 [none] [.inl t0] σ := by
  obtain ⟨hg1, h⟩ := ab_grd h
  obtain rfl := Option.some.inj h
  exact ab_zret C dX8_isName_41 hg1
set_option maxRecDepth 100000 in
set_option maxHeartbeats 4000000 in
theorem gX8_isName_b36 {R : Int32} (C : ab_C yC p s m args meth c D cA ad cX8_isName 1 RX8 (some .boolean)) {σ : ab_S} (h : fX8_isName_b36 = some R) : ab_G yC p l e s m args below meth c D cA ad 1 0 (some (.inl R)) σ 36 [none] [] σ := by
  refine ab_iconst C dX8_isName_36 (v := 1) rfl ?_
  refine ab_goto C (tgt := 41) dX8_isName_37 (by decide) ?_
  refine ab_weak (lv' := [none]) ⟨.inl rfl, trivial⟩ ?_
  exact gX8_isName_b41 C _ h
set_option maxRecDepth 100000 in
set_option maxHeartbeats 4000000 in
theorem tX8_isName (l : Launch) (x0 : Int32) (σ : ab_S) {R : Int32} (h : fX8_isName x0 = some R) : ab_M l yC yX8_isName cX8_isName 1 (some .boolean) 0 [.inl x0] σ (some (.inl R)) σ := by
  refine ab_M_intro ndC (by decide) (Nat.le_of_ble_eq_true rfl) ?_
  intro p e s m args below meth c D cA ad C
  have C : ab_C yC p s m args meth c D cA ad cX8_isName 1 RX8 (some .boolean) := C
  refine ab_weak (lv' := [some (.inl x0)]) ⟨.inr rfl, trivial⟩ ?_
  refine ab_iload_n C dX8_isName_0 rfl ?_
  refine ab_bipush C dX8_isName_1 (v := 100) rfl ?_
  refine ab_icmp_eq C (tgt := 36) dX8_isName_3 (by decide) (fun hc1 => ?_) (fun hc1 => ?_)
  · replace h := ab_pos hc1 h
    refine ab_weak (lv' := [none]) ⟨.inl rfl, trivial⟩ ?_
    exact gX8_isName_b36 C h
  · replace h := ab_neg hc1 h
    refine ab_iload_n C dX8_isName_6 rfl ?_
    refine ab_bipush C dX8_isName_7 (v := 120) rfl ?_
    refine ab_icmp_eq C (tgt := 36) dX8_isName_9 (by decide) (fun hc2 => ?_) (fun hc2 => ?_)
    · replace h := ab_pos hc2 h
      refine ab_weak (lv' := [none]) ⟨.inl rfl, trivial⟩ ?_
      exact gX8_isName_b36 C h
    · replace h := ab_neg hc2 h
      refine ab_iload_n C dX8_isName_12 rfl ?_
      refine ab_bipush C dX8_isName_13 (v := 99) rfl ?_
      refine ab_icmp_eq C (tgt := 36) dX8_isName_15 (by decide) (fun hc3 => ?_) (fun hc3 => ?_)
      · replace h := ab_pos hc3 h
        refine ab_weak (lv' := [none]) ⟨.inl rfl, trivial⟩ ?_
        exact gX8_isName_b36 C h
      · replace h := ab_neg hc3 h
        refine ab_iload_n C dX8_isName_18 rfl ?_
        refine ab_bipush C dX8_isName_19 (v := 110) rfl ?_
        refine ab_icmp_eq C (tgt := 36) dX8_isName_21 (by decide) (fun hc4 => ?_) (fun hc4 => ?_)
        · replace h := ab_pos hc4 h
          refine ab_weak (lv' := [none]) ⟨.inl rfl, trivial⟩ ?_
          exact gX8_isName_b36 C h
        · replace h := ab_neg hc4 h
          refine ab_iload_n C dX8_isName_24 rfl ?_
          refine ab_bipush C dX8_isName_25 (v := 114) rfl ?_
          refine ab_icmp_eq C (tgt := 36) dX8_isName_27 (by decide) (fun hc5 => ?_) (fun hc5 => ?_)
          · replace h := ab_pos hc5 h
            refine ab_weak (lv' := [none]) ⟨.inl rfl, trivial⟩ ?_
            exact gX8_isName_b36 C h
          · replace h := ab_neg hc5 h
            refine ab_iload_n C dX8_isName_30 rfl ?_
            refine ab_bipush C dX8_isName_31 (v := 97) rfl ?_
            refine ab_icmp_ne C (tgt := 40) dX8_isName_33 (by decide) (fun hc6 => ?_) (fun hc6 => ?_)
            · replace h := ab_neg hc6 h
              refine ab_iconst C dX8_isName_40 (v := 0) rfl ?_
              refine ab_weak (lv' := [none]) ⟨.inl rfl, trivial⟩ ?_
              exact gX8_isName_b41 C _ h
            · replace h := ab_pos hc6 h
              refine ab_weak (lv' := [none]) ⟨.inl rfl, trivial⟩ ?_
              exact gX8_isName_b36 C h
end
def fX8_number_b48 (v1 : Int32) (σ : ab_S) : Option ab_S := (fX8_emit (1000 + v1) σ).bind fun q1 => some q1
def fX8_number_b4_o (kk4 : Int32 → Int32 → ab_S → Option ab_S) (v1 : Int32) (v2 : Int32) (σ : ab_S) : Option ab_S := (if 4 ≤ v2 then fX8_number_b48 v1 σ else (fX8_letter σ).bind fun q2 => (fX8_isDigit q2).bind fun q3 => (if q3 = 0 then fX8_number_b48 v1 σ else (fX8_letter σ).bind fun q5 => ab_k (ab_si σ 18 0 4 ((σ.1 18 0 4) + 1)) fun σ6 => kk4 (((10 * v1) + q5) - 48) (v2 + 1) σ6))
def fX8_number_b4 : Nat → Int32 → Int32 → ab_S → Option ab_S
  | 0 => fun _ _ _ => none
  | n + 1 => fX8_number_b4_o  (fX8_number_b4 n)
def fX8_number (σ : ab_S) : Option ab_S := fX8_number_b4 ab_N 0 0 σ
section
variable {p : Program} {l : Launch} {e : Env} {s : State} {m : MethodId} {args : Array Value} {below : List Frame} {meth : Method} {c : Code} {D : va_G} {cA : Nat → ClassId} {ad : Nat → Nat → Nat}
set_option maxRecDepth 100000 in
set_option maxHeartbeats 4000000 in
theorem gX8_number_b48 {R : ab_S} (C : ab_C yC p s m args meth c D cA ad cX8_number 3 RX8 none) (v1 : Int32) (σ : ab_S) (h : fX8_number_b48 v1 σ = some R) : ab_G yC p l e s m args below meth c D cA ad 3 1 none R 48 [some (.inr (.inr (18, 0))), some (.inl v1), none] [] σ := by
  refine ab_aload_n C dX8_number_48 rfl ?_
  refine ab_sipush C dX8_number_49 (v := 1000) rfl ?_
  refine ab_iload_n C dX8_number_52 rfl ?_
  refine ab_iadd C dX8_number_53  ?_
  obtain ⟨q1, hq1, h⟩ := ab_bind h
  refine ab_inv0 C dX8_number_54 mlX8_49 yvX8_emit rkC_18 ⟨_, _, rfl⟩ mmC_18 (tX8_emit l _ _ hq1) (Nat.le_of_ble_eq_true rfl) (Nat.le_of_ble_eq_true rfl) rfl (Nat.le_of_ble_eq_true rfl) ?_
  obtain rfl := Option.some.inj h
  exact ab_vret C dX8_number_57
set_option maxRecDepth 100000 in
set_option maxHeartbeats 4000000 in
theorem gX8_number_b4_o {R : ab_S} (C : ab_C yC p s m args meth c D cA ad cX8_number 3 RX8 none) {kk4 : Int32 → Int32 → ab_S → Option ab_S} (hk4 : ∀ (v1 : Int32) (v2 : Int32) (σ : ab_S), kk4 v1 v2 σ = some R → ab_G yC p l e s m args below meth c D cA ad 3 1 none R 4 [some (.inr (.inr (18, 0))), some (.inl v1), some (.inl v2)] [] σ) (v1 : Int32) (v2 : Int32) (σ : ab_S) (h : fX8_number_b4_o kk4 v1 v2 σ = some R) : ab_G yC p l e s m args below meth c D cA ad 3 1 none R 4 [some (.inr (.inr (18, 0))), some (.inl v1), some (.inl v2)] [] σ := by
  refine ab_iload_n C dX8_number_4 rfl ?_
  refine ab_iconst C dX8_number_5 (v := 4) rfl ?_
  refine ab_icmp_ge C (tgt := 48) dX8_number_6 (by decide) (fun hc1 => ?_) (fun hc1 => ?_)
  · replace h := ab_pos hc1 h
    refine ab_weak (lv' := [some (.inr (.inr (18, 0))), some (.inl v1), none]) ⟨.inr rfl, ⟨.inr rfl, ⟨.inl rfl, trivial⟩⟩⟩ ?_
    exact gX8_number_b48 C _ _ h
  · replace h := ab_neg hc1 h
    refine ab_aload_n C dX8_number_9 rfl ?_
    obtain ⟨q2, hq2, h⟩ := ab_bind h
    refine ab_inv1 C dX8_number_10 mlX8_41 yvX8_letter rkC_18 ⟨_, _, rfl⟩ mmC_18 (tX8_letter l _ hq2) (Nat.le_of_ble_eq_true rfl) (Nat.le_of_ble_eq_true rfl) rfl (Nat.le_of_ble_eq_true rfl) ?_
    obtain ⟨q3, hq3, h⟩ := ab_bind h
    refine ab_invS1 C dX8_number_13 mlX8_60 ysX8_isDigit (tX8_isDigit l _ _ hq3) (Nat.le_of_ble_eq_true rfl) (Nat.le_of_ble_eq_true rfl) rfl (Nat.le_of_ble_eq_true rfl) ?_
    refine ab_if_eq C (tgt := 48) dX8_number_16 (by decide) (fun hc4 => ?_) (fun hc4 => ?_)
    · replace h := ab_pos hc4 h
      refine ab_weak (lv' := [some (.inr (.inr (18, 0))), some (.inl v1), none]) ⟨.inr rfl, ⟨.inr rfl, ⟨.inl rfl, trivial⟩⟩⟩ ?_
      exact gX8_number_b48 C _ _ h
    · replace h := ab_neg hc4 h
      refine ab_bipush C dX8_number_19 (v := 10) rfl ?_
      refine ab_iload_n C dX8_number_21 rfl ?_
      refine ab_imul C dX8_number_22  ?_
      refine ab_aload_n C dX8_number_23 rfl ?_
      obtain ⟨q5, hq5, h⟩ := ab_bind h
      refine ab_inv1 C dX8_number_24 mlX8_41 yvX8_letter rkC_18 ⟨_, _, rfl⟩ mmC_18 (tX8_letter l _ hq5) (Nat.le_of_ble_eq_true rfl) (Nat.le_of_ble_eq_true rfl) rfl (Nat.le_of_ble_eq_true rfl) ?_
      refine ab_iadd C dX8_number_27  ?_
      refine ab_bipush C dX8_number_28 (v := 48) rfl ?_
      refine ab_isub C dX8_number_30  ?_
      refine ab_istore_n C dX8_number_31 (Nat.le_of_ble_eq_true rfl) ?_
      refine ab_aload_n C dX8_number_32 rfl ?_
      refine ab_dup C dX8_number_33 rfl ?_
      refine ab_getI C dX8_number_34 flX8_28 rkC_18 rfl mmC_18 ?_
      refine ab_iconst C dX8_number_37 (v := 1) rfl ?_
      refine ab_iadd C dX8_number_38  ?_
      refine ab_putI C dX8_number_39 fpX8_28 rkC_18 rfl mmC_18 rfl rfl ?_
      refine ab_nmS (fun σ6 eσ6 => ?_)
      replace h := ab_kh eσ6 h
      refine ab_iinc C dX8_number_42 rfl (v := 1) rfl (Nat.le_of_ble_eq_true rfl) ?_
      refine ab_goto C (tgt := 4) dX8_number_45 (by decide) ?_
      refine ab_weak (lv' := [some (.inr (.inr (18, 0))), some (.inl (((10 * v1) + q5) - 48)), some (.inl (v2 + 1))]) ⟨.inr rfl, ⟨.inr rfl, ⟨.inr rfl, trivial⟩⟩⟩ ?_
      exact hk4 _ _ _ h
theorem gX8_number_b4 {R : ab_S} (C : ab_C yC p s m args meth c D cA ad cX8_number 3 RX8 none) : ∀ (j : Nat) (v1 : Int32) (v2 : Int32) (σ : ab_S), fX8_number_b4 j v1 v2 σ = some R → ab_G yC p l e s m args below meth c D cA ad 3 1 none R 4 [some (.inr (.inr (18, 0))), some (.inl v1), some (.inl v2)] [] σ := by
  intro j
  induction j with
  | zero => intro v1 v2 σ  h; cases h
  | succ j ih => intro v1 v2 σ  h; exact gX8_number_b4_o C ih _ _ _ h
set_option maxRecDepth 100000 in
set_option maxHeartbeats 4000000 in
theorem tX8_number (l : Launch) (σ : ab_S) {R : ab_S} (h : fX8_number σ = some R) : ab_M l yC yX8_number cX8_number 3 none 1 [.inr (.inr (18, 0))] σ none R := by
  refine ab_M_intro ndC (by decide) (Nat.le_of_ble_eq_true rfl) ?_
  intro p e s m args below meth c D cA ad C
  have C : ab_C yC p s m args meth c D cA ad cX8_number 3 RX8 none := C
  refine ab_weak (lv' := [some (.inr (.inr (18, 0))), none, none]) ⟨.inr rfl, ⟨.inl rfl, ⟨.inl rfl, trivial⟩⟩⟩ ?_
  refine ab_iconst C dX8_number_0 (v := 0) rfl ?_
  refine ab_istore_n C dX8_number_1 (Nat.le_of_ble_eq_true rfl) ?_
  refine ab_iconst C dX8_number_2 (v := 0) rfl ?_
  refine ab_istore_n C dX8_number_3 (Nat.le_of_ble_eq_true rfl) ?_
  refine ab_weak (lv' := [some (.inr (.inr (18, 0))), some (.inl 0), some (.inl 0)]) ⟨.inr rfl, ⟨.inr rfl, ⟨.inr rfl, trivial⟩⟩⟩ ?_
  exact gX8_number_b4 C ab_N _ _ _ h
end
def fX8_bracket_b41 (rc0 : Int32 → ab_S → Option ab_S) (rc1 : Int32 → Int32 → ab_S → Option ab_S) (rc2 : Int32 → ab_S → Option ab_S) (rc3 : Int32 → Int32 → ab_S → Option ab_S) (σ : ab_S) : Option ab_S := some σ
def fX8_bracket_o (rc0 : Int32 → ab_S → Option ab_S) (rc1 : Int32 → Int32 → ab_S → Option ab_S) (rc2 : Int32 → ab_S → Option ab_S) (rc3 : Int32 → Int32 → ab_S → Option ab_S) (x1 : Int32) (σ : ab_S) : Option ab_S := (rc1 0 x1 σ).bind fun q1 => (if (q1.1 18 0 5) = 0 then (fX8_letter q1).bind fun q3 => (if q3 = 41 then ab_k (ab_si q1 18 0 4 ((q1.1 18 0 4) + 1)) fun σ6 => fX8_bracket_b41 rc0 rc1 rc2 rc3 σ6 else ab_k (ab_si q1 18 0 5 1) fun σ5 => fX8_bracket_b41 rc0 rc1 rc2 rc3 σ5) else some q1)
def fX8_join_b94 (rc0 : Int32 → ab_S → Option ab_S) (rc1 : Int32 → Int32 → ab_S → Option ab_S) (rc2 : Int32 → ab_S → Option ab_S) (rc3 : Int32 → Int32 → ab_S → Option ab_S) (σ : ab_S) : Option ab_S := some σ
def fX8_join_b34_o (rc0 : Int32 → ab_S → Option ab_S) (rc1 : Int32 → Int32 → ab_S → Option ab_S) (rc2 : Int32 → ab_S → Option ab_S) (rc3 : Int32 → Int32 → ab_S → Option ab_S) (kk34 : Int32 → Int32 → Int32 → Int32 → ab_S → Option ab_S) (v1 : Int32) (v2 : Int32) (v3 : Int32) (v4 : Int32) (σ : ab_S) : Option ab_S := (if v3 ≤ v4 then fX8_join_b94 rc0 rc1 rc2 rc3 σ else (if (σ.1 18 0 5) = 0 then (fX8_letter σ).bind fun q3 => (fX8_isJoint v1 q3).bind fun q4 => (if q4 = 0 then fX8_join_b94 rc0 rc1 rc2 rc3 σ else (fX8_letter σ).bind fun q6 => ab_k (ab_si σ 18 0 4 ((σ.1 18 0 4) + 1)) fun σ7 => (rc1 (v1 + 1) v2 σ7).bind fun q8 => (fX8_emit q6 q8).bind fun q9 => kk34 v1 v2 v3 (v4 + 1) q9) else fX8_join_b94 rc0 rc1 rc2 rc3 σ))
def fX8_join_b34 (rc0 : Int32 → ab_S → Option ab_S) (rc1 : Int32 → Int32 → ab_S → Option ab_S) (rc2 : Int32 → ab_S → Option ab_S) (rc3 : Int32 → Int32 → ab_S → Option ab_S) : Nat → Int32 → Int32 → Int32 → Int32 → ab_S → Option ab_S
  | 0 => fun _ _ _ _ _ => none
  | n + 1 => fX8_join_b34_o rc0 rc1 rc2 rc3 (fX8_join_b34 rc0 rc1 rc2 rc3 n)
def fX8_join_b30 (rc0 : Int32 → ab_S → Option ab_S) (rc1 : Int32 → Int32 → ab_S → Option ab_S) (rc2 : Int32 → ab_S → Option ab_S) (rc3 : Int32 → Int32 → ab_S → Option ab_S) (v1 : Int32) (v2 : Int32) (t0 : Int32) (σ : ab_S) : Option ab_S := fX8_join_b34 rc0 rc1 rc2 rc3 ab_N v1 v2 t0 0 σ
def fX8_join_o (rc0 : Int32 → ab_S → Option ab_S) (rc1 : Int32 → Int32 → ab_S → Option ab_S) (rc2 : Int32 → ab_S → Option ab_S) (rc3 : Int32 → Int32 → ab_S → Option ab_S) (x1 : Int32) (x2 : Int32) (σ : ab_S) : Option ab_S := (if x1 < 5 then (rc1 (x1 + 1) x2 σ).bind fun q2 => (if x1 = 2 then fX8_join_b30 rc0 rc1 rc2 rc3 x1 x2 1 q2 else fX8_join_b30 rc0 rc1 rc2 rc3 x1 x2 120 q2) else (rc2 x2 σ).bind fun q4 => some q4)
def fX8_operand_b110 (rc0 : Int32 → ab_S → Option ab_S) (rc1 : Int32 → Int32 → ab_S → Option ab_S) (rc2 : Int32 → ab_S → Option ab_S) (rc3 : Int32 → Int32 → ab_S → Option ab_S) (σ : ab_S) : Option ab_S := some σ
def fX8_operand_b105 (rc0 : Int32 → ab_S → Option ab_S) (rc1 : Int32 → Int32 → ab_S → Option ab_S) (rc2 : Int32 → ab_S → Option ab_S) (rc3 : Int32 → Int32 → ab_S → Option ab_S) (σ : ab_S) : Option ab_S := ab_k (ab_si σ 18 0 5 1) fun σ1 => fX8_operand_b110 rc0 rc1 rc2 rc3 σ1
def fX8_operand_b68 (rc0 : Int32 → ab_S → Option ab_S) (rc1 : Int32 → Int32 → ab_S → Option ab_S) (rc2 : Int32 → ab_S → Option ab_S) (rc3 : Int32 → Int32 → ab_S → Option ab_S) (v1 : Int32) (v2 : Int32) (σ : ab_S) : Option ab_S := ab_k (ab_si σ 18 0 4 ((σ.1 18 0 4) + 1)) fun σ1 => (if v2 = 40 then (rc0 (v1 + 1) σ1).bind fun q4 => fX8_operand_b110 rc0 rc1 rc2 rc3 q4 else (rc3 v2 (v1 + 1) σ1).bind fun q3 => fX8_operand_b110 rc0 rc1 rc2 rc3 q3)
def fX8_operand_o (rc0 : Int32 → ab_S → Option ab_S) (rc1 : Int32 → Int32 → ab_S → Option ab_S) (rc2 : Int32 → ab_S → Option ab_S) (rc3 : Int32 → Int32 → ab_S → Option ab_S) (x1 : Int32) (σ : ab_S) : Option ab_S := (fX8_letter σ).bind fun q1 => (fX8_isDigit q1).bind fun q2 => (if q2 = 0 then (fX8_isName q1).bind fun q4 => (if q4 = 0 then (if 6 ≤ x1 then fX8_operand_b105 rc0 rc1 rc2 rc3 σ else (if q1 = 40 then fX8_operand_b68 rc0 rc1 rc2 rc3 x1 q1 σ else (if q1 = 33 then fX8_operand_b68 rc0 rc1 rc2 rc3 x1 q1 σ else (if q1 = 45 then fX8_operand_b68 rc0 rc1 rc2 rc3 x1 q1 σ else fX8_operand_b105 rc0 rc1 rc2 rc3 σ)))) else ab_k (ab_si σ 18 0 4 ((σ.1 18 0 4) + 1)) fun σ10 => (fX8_emit q1 σ10).bind fun q11 => fX8_operand_b110 rc0 rc1 rc2 rc3 q11) else (fX8_number σ).bind fun q12 => fX8_operand_b110 rc0 rc1 rc2 rc3 q12)
def fX8_sign_b18 (rc0 : Int32 → ab_S → Option ab_S) (rc1 : Int32 → Int32 → ab_S → Option ab_S) (rc2 : Int32 → ab_S → Option ab_S) (rc3 : Int32 → Int32 → ab_S → Option ab_S) (t1 : Int32) (σ : ab_S) : Option ab_S := (fX8_emit t1 σ).bind fun q1 => some q1
def fX8_sign_o (rc0 : Int32 → ab_S → Option ab_S) (rc1 : Int32 → Int32 → ab_S → Option ab_S) (rc2 : Int32 → ab_S → Option ab_S) (rc3 : Int32 → Int32 → ab_S → Option ab_S) (x1 : Int32) (x2 : Int32) (σ : ab_S) : Option ab_S := (rc2 x2 σ).bind fun q1 => (if x1 = 45 then fX8_sign_b18 rc0 rc1 rc2 rc3 126 q1 else fX8_sign_b18 rc0 rc1 rc2 rc3 x1 q1)
def fzX8_bracket : Nat → (Int32 → ab_S → Option ab_S) × (Int32 → Int32 → ab_S → Option ab_S) × (Int32 → ab_S → Option ab_S) × (Int32 → Int32 → ab_S → Option ab_S)
  | 0 => (fun _ _ => none, fun _ _ _ => none, fun _ _ => none, fun _ _ _ => none)
  | n + 1 => (fX8_bracket_o ((fzX8_bracket n).1) ((fzX8_bracket n).2.1) ((fzX8_bracket n).2.2.1) ((fzX8_bracket n).2.2.2), fX8_join_o ((fzX8_bracket n).1) ((fzX8_bracket n).2.1) ((fzX8_bracket n).2.2.1) ((fzX8_bracket n).2.2.2), fX8_operand_o ((fzX8_bracket n).1) ((fzX8_bracket n).2.1) ((fzX8_bracket n).2.2.1) ((fzX8_bracket n).2.2.2), fX8_sign_o ((fzX8_bracket n).1) ((fzX8_bracket n).2.1) ((fzX8_bracket n).2.2.1) ((fzX8_bracket n).2.2.2))
def fX8_bracket (n : Nat) (x1 : Int32) (σ : ab_S) : Option ab_S := (fzX8_bracket n).1 x1 σ
def fX8_join (n : Nat) (x1 : Int32) (x2 : Int32) (σ : ab_S) : Option ab_S := (fzX8_bracket n).2.1 x1 x2 σ
def fX8_operand (n : Nat) (x1 : Int32) (σ : ab_S) : Option ab_S := (fzX8_bracket n).2.2.1 x1 σ
def fX8_sign (n : Nat) (x1 : Int32) (x2 : Int32) (σ : ab_S) : Option ab_S := (fzX8_bracket n).2.2.2 x1 x2 σ
section
variable {p : Program} {l : Launch} {e : Env} {s : State} {m : MethodId} {args : Array Value} {below : List Frame} {meth : Method} {c : Code} {D : va_G} {cA : Nat → ClassId} {ad : Nat → Nat → Nat}
set_option maxRecDepth 100000 in
set_option maxHeartbeats 4000000 in
theorem gX8_bracket_b41 {n : Nat} {R : ab_S} {rc0 : Int32 → ab_S → Option ab_S} {rc1 : Int32 → Int32 → ab_S → Option ab_S} {rc2 : Int32 → ab_S → Option ab_S} {rc3 : Int32 → Int32 → ab_S → Option ab_S} (C : ab_C yC p s m args meth c D cA ad cX8_bracket 2 RX8 none) (hrec : (∀ (x1 : Int32) (σ : ab_S), ∀ (R : ab_S), rc0 x1 σ = some R → ab_M l yC yX8_bracket cX8_bracket 2 none (2 + n) [.inr (.inr (18, 0)), .inl x1] σ none R) ∧ (∀ (x1 : Int32) (x2 : Int32) (σ : ab_S), ∀ (R : ab_S), rc1 x1 x2 σ = some R → ab_M l yC yX8_join cX8_join 6 none (2 + n) [.inr (.inr (18, 0)), .inl x1, .inl x2] σ none R) ∧ (∀ (x1 : Int32) (σ : ab_S), ∀ (R : ab_S), rc2 x1 σ = some R → ab_M l yC yX8_operand cX8_operand 3 none (2 + n) [.inr (.inr (18, 0)), .inl x1] σ none R) ∧ (∀ (x1 : Int32) (x2 : Int32) (σ : ab_S), ∀ (R : ab_S), rc3 x1 x2 σ = some R → ab_M l yC yX8_sign cX8_sign 3 none (2 + n) [.inr (.inr (18, 0)), .inl x1, .inl x2] σ none R)) (σ : ab_S) (h : fX8_bracket_b41 rc0 rc1 rc2 rc3 σ = some R) : ab_G yC p l e s m args below meth c D cA ad 2 (2 + n + 1) none R 41 [none, none] [] σ := by
  obtain rfl := Option.some.inj h
  exact ab_vret C dX8_bracket_41
set_option maxRecDepth 100000 in
set_option maxHeartbeats 4000000 in
theorem tX8_bracket_o (l : Launch) {n : Nat} {rc0 : Int32 → ab_S → Option ab_S} {rc1 : Int32 → Int32 → ab_S → Option ab_S} {rc2 : Int32 → ab_S → Option ab_S} {rc3 : Int32 → Int32 → ab_S → Option ab_S} (hrec : (∀ (x1 : Int32) (σ : ab_S), ∀ (R : ab_S), rc0 x1 σ = some R → ab_M l yC yX8_bracket cX8_bracket 2 none (2 + n) [.inr (.inr (18, 0)), .inl x1] σ none R) ∧ (∀ (x1 : Int32) (x2 : Int32) (σ : ab_S), ∀ (R : ab_S), rc1 x1 x2 σ = some R → ab_M l yC yX8_join cX8_join 6 none (2 + n) [.inr (.inr (18, 0)), .inl x1, .inl x2] σ none R) ∧ (∀ (x1 : Int32) (σ : ab_S), ∀ (R : ab_S), rc2 x1 σ = some R → ab_M l yC yX8_operand cX8_operand 3 none (2 + n) [.inr (.inr (18, 0)), .inl x1] σ none R) ∧ (∀ (x1 : Int32) (x2 : Int32) (σ : ab_S), ∀ (R : ab_S), rc3 x1 x2 σ = some R → ab_M l yC yX8_sign cX8_sign 3 none (2 + n) [.inr (.inr (18, 0)), .inl x1, .inl x2] σ none R)) (x1 : Int32) (σ : ab_S) {R : ab_S} (h : fX8_bracket_o rc0 rc1 rc2 rc3 x1 σ = some R) : ab_M l yC yX8_bracket cX8_bracket 2 none (2 + n + 1) [.inr (.inr (18, 0)), .inl x1] σ none R := by
  refine ab_M_intro ndC (by decide) (Nat.le_of_ble_eq_true rfl) ?_
  intro p e s m args below meth c D cA ad C
  have C : ab_C yC p s m args meth c D cA ad cX8_bracket 2 RX8 none := C
  refine ab_weak (lv' := [some (.inr (.inr (18, 0))), some (.inl x1)]) ⟨.inr rfl, ⟨.inr rfl, trivial⟩⟩ ?_
  refine ab_aload_n C dX8_bracket_0 rfl ?_
  refine ab_iconst C dX8_bracket_1 (v := 0) rfl ?_
  refine ab_iload_n C dX8_bracket_2 rfl ?_
  obtain ⟨q1, hq1, h⟩ := ab_bind h
  refine ab_inv0 C dX8_bracket_3 mlX8_45 yvX8_join rkC_18 ⟨_, _, rfl⟩ mmC_18 (hrec.2.1 _ _ _ _ hq1) (by omega) (Nat.le_of_ble_eq_true rfl) rfl (Nat.le_of_ble_eq_true rfl) ?_
  refine ab_aload_n C dX8_bracket_6 rfl ?_
  refine ab_getI C dX8_bracket_7 flX8_34 rkC_18 rfl mmC_18 ?_
  refine ab_if_eq C (tgt := 14) dX8_bracket_10 (by decide) (fun hc2 => ?_) (fun hc2 => ?_)
  · replace h := ab_pos hc2 h
    refine ab_aload_n C dX8_bracket_14 rfl ?_
    obtain ⟨q3, hq3, h⟩ := ab_bind h
    refine ab_inv1 C dX8_bracket_15 mlX8_41 yvX8_letter rkC_18 ⟨_, _, rfl⟩ mmC_18 (tX8_letter l _ hq3) (by omega) (Nat.le_of_ble_eq_true rfl) rfl (Nat.le_of_ble_eq_true rfl) ?_
    refine ab_bipush C dX8_bracket_18 (v := 41) rfl ?_
    refine ab_icmp_ne C (tgt := 36) dX8_bracket_20 (by decide) (fun hc4 => ?_) (fun hc4 => ?_)
    · replace h := ab_neg hc4 h
      refine ab_aload_n C dX8_bracket_36 rfl ?_
      refine ab_iconst C dX8_bracket_37 (v := 1) rfl ?_
      refine ab_putI C dX8_bracket_38 fpX8_34 rkC_18 rfl mmC_18 rfl rfl ?_
      refine ab_nmS (fun σ5 eσ5 => ?_)
      replace h := ab_kh eσ5 h
      refine ab_weak (lv' := [none, none]) ⟨.inl rfl, ⟨.inl rfl, trivial⟩⟩ ?_
      exact gX8_bracket_b41 C hrec _ h
    · replace h := ab_pos hc4 h
      refine ab_aload_n C dX8_bracket_23 rfl ?_
      refine ab_dup C dX8_bracket_24 rfl ?_
      refine ab_getI C dX8_bracket_25 flX8_28 rkC_18 rfl mmC_18 ?_
      refine ab_iconst C dX8_bracket_28 (v := 1) rfl ?_
      refine ab_iadd C dX8_bracket_29  ?_
      refine ab_putI C dX8_bracket_30 fpX8_28 rkC_18 rfl mmC_18 rfl rfl ?_
      refine ab_nmS (fun σ6 eσ6 => ?_)
      replace h := ab_kh eσ6 h
      refine ab_goto C (tgt := 41) dX8_bracket_33 (by decide) ?_
      refine ab_weak (lv' := [none, none]) ⟨.inl rfl, ⟨.inl rfl, trivial⟩⟩ ?_
      exact gX8_bracket_b41 C hrec _ h
  · replace h := ab_neg hc2 h
    obtain rfl := Option.some.inj h
    exact ab_vret C dX8_bracket_13
end
section
variable {p : Program} {l : Launch} {e : Env} {s : State} {m : MethodId} {args : Array Value} {below : List Frame} {meth : Method} {c : Code} {D : va_G} {cA : Nat → ClassId} {ad : Nat → Nat → Nat}
set_option maxRecDepth 100000 in
set_option maxHeartbeats 4000000 in
theorem gX8_join_b94 {n : Nat} {R : ab_S} {rc0 : Int32 → ab_S → Option ab_S} {rc1 : Int32 → Int32 → ab_S → Option ab_S} {rc2 : Int32 → ab_S → Option ab_S} {rc3 : Int32 → Int32 → ab_S → Option ab_S} (C : ab_C yC p s m args meth c D cA ad cX8_join 6 RX8 none) (hrec : (∀ (x1 : Int32) (σ : ab_S), ∀ (R : ab_S), rc0 x1 σ = some R → ab_M l yC yX8_bracket cX8_bracket 2 none (2 + n) [.inr (.inr (18, 0)), .inl x1] σ none R) ∧ (∀ (x1 : Int32) (x2 : Int32) (σ : ab_S), ∀ (R : ab_S), rc1 x1 x2 σ = some R → ab_M l yC yX8_join cX8_join 6 none (2 + n) [.inr (.inr (18, 0)), .inl x1, .inl x2] σ none R) ∧ (∀ (x1 : Int32) (σ : ab_S), ∀ (R : ab_S), rc2 x1 σ = some R → ab_M l yC yX8_operand cX8_operand 3 none (2 + n) [.inr (.inr (18, 0)), .inl x1] σ none R) ∧ (∀ (x1 : Int32) (x2 : Int32) (σ : ab_S), ∀ (R : ab_S), rc3 x1 x2 σ = some R → ab_M l yC yX8_sign cX8_sign 3 none (2 + n) [.inr (.inr (18, 0)), .inl x1, .inl x2] σ none R)) (σ : ab_S) (h : fX8_join_b94 rc0 rc1 rc2 rc3 σ = some R) : ab_G yC p l e s m args below meth c D cA ad 6 (2 + n + 1) none R 94 [none, none, none, none, none, none] [] σ := by
  obtain rfl := Option.some.inj h
  exact ab_vret C dX8_join_94
set_option maxRecDepth 100000 in
set_option maxHeartbeats 4000000 in
theorem gX8_join_b34_o {n : Nat} {R : ab_S} {rc0 : Int32 → ab_S → Option ab_S} {rc1 : Int32 → Int32 → ab_S → Option ab_S} {rc2 : Int32 → ab_S → Option ab_S} {rc3 : Int32 → Int32 → ab_S → Option ab_S} (C : ab_C yC p s m args meth c D cA ad cX8_join 6 RX8 none) (hrec : (∀ (x1 : Int32) (σ : ab_S), ∀ (R : ab_S), rc0 x1 σ = some R → ab_M l yC yX8_bracket cX8_bracket 2 none (2 + n) [.inr (.inr (18, 0)), .inl x1] σ none R) ∧ (∀ (x1 : Int32) (x2 : Int32) (σ : ab_S), ∀ (R : ab_S), rc1 x1 x2 σ = some R → ab_M l yC yX8_join cX8_join 6 none (2 + n) [.inr (.inr (18, 0)), .inl x1, .inl x2] σ none R) ∧ (∀ (x1 : Int32) (σ : ab_S), ∀ (R : ab_S), rc2 x1 σ = some R → ab_M l yC yX8_operand cX8_operand 3 none (2 + n) [.inr (.inr (18, 0)), .inl x1] σ none R) ∧ (∀ (x1 : Int32) (x2 : Int32) (σ : ab_S), ∀ (R : ab_S), rc3 x1 x2 σ = some R → ab_M l yC yX8_sign cX8_sign 3 none (2 + n) [.inr (.inr (18, 0)), .inl x1, .inl x2] σ none R)) {kk34 : Int32 → Int32 → Int32 → Int32 → ab_S → Option ab_S} (hk34 : ∀ (v1 : Int32) (v2 : Int32) (v3 : Int32) (v4 : Int32) (σ : ab_S), kk34 v1 v2 v3 v4 σ = some R → ab_G yC p l e s m args below meth c D cA ad 6 (2 + n + 1) none R 34 [some (.inr (.inr (18, 0))), some (.inl v1), some (.inl v2), some (.inl v3), some (.inl v4), none] [] σ) (v1 : Int32) (v2 : Int32) (v3 : Int32) (v4 : Int32) (σ : ab_S) (h : fX8_join_b34_o rc0 rc1 rc2 rc3 kk34 v1 v2 v3 v4 σ = some R) : ab_G yC p l e s m args below meth c D cA ad 6 (2 + n + 1) none R 34 [some (.inr (.inr (18, 0))), some (.inl v1), some (.inl v2), some (.inl v3), some (.inl v4), none] [] σ := by
  refine ab_iload C dX8_join_34 rfl ?_
  refine ab_iload_n C dX8_join_36 rfl ?_
  refine ab_icmp_ge C (tgt := 94) dX8_join_37 (by decide) (fun hc1 => ?_) (fun hc1 => ?_)
  · replace h := ab_pos hc1 h
    refine ab_weak (lv' := [none, none, none, none, none, none]) ⟨.inl rfl, ⟨.inl rfl, ⟨.inl rfl, ⟨.inl rfl, ⟨.inl rfl, ⟨.inl rfl, trivial⟩⟩⟩⟩⟩⟩ ?_
    exact gX8_join_b94 C hrec _ h
  · replace h := ab_neg hc1 h
    refine ab_aload_n C dX8_join_40 rfl ?_
    refine ab_getI C dX8_join_41 flX8_34 rkC_18 rfl mmC_18 ?_
    refine ab_if_ne C (tgt := 94) dX8_join_44 (by decide) (fun hc2 => ?_) (fun hc2 => ?_)
    · replace h := ab_neg hc2 h
      refine ab_weak (lv' := [none, none, none, none, none, none]) ⟨.inl rfl, ⟨.inl rfl, ⟨.inl rfl, ⟨.inl rfl, ⟨.inl rfl, ⟨.inl rfl, trivial⟩⟩⟩⟩⟩⟩ ?_
      exact gX8_join_b94 C hrec _ h
    · replace h := ab_pos hc2 h
      refine ab_iload_n C dX8_join_47 rfl ?_
      refine ab_aload_n C dX8_join_48 rfl ?_
      obtain ⟨q3, hq3, h⟩ := ab_bind h
      refine ab_inv1 C dX8_join_49 mlX8_41 yvX8_letter rkC_18 ⟨_, _, rfl⟩ mmC_18 (tX8_letter l _ hq3) (by omega) (Nat.le_of_ble_eq_true rfl) rfl (Nat.le_of_ble_eq_true rfl) ?_
      obtain ⟨q4, hq4, h⟩ := ab_bind h
      refine ab_invS1 C dX8_join_52 mlX8_56 ysX8_isJoint (tX8_isJoint l _ _ _ hq4) (by omega) (Nat.le_of_ble_eq_true rfl) rfl (Nat.le_of_ble_eq_true rfl) ?_
      refine ab_if_eq C (tgt := 94) dX8_join_55 (by decide) (fun hc5 => ?_) (fun hc5 => ?_)
      · replace h := ab_pos hc5 h
        refine ab_weak (lv' := [none, none, none, none, none, none]) ⟨.inl rfl, ⟨.inl rfl, ⟨.inl rfl, ⟨.inl rfl, ⟨.inl rfl, ⟨.inl rfl, trivial⟩⟩⟩⟩⟩⟩ ?_
        exact gX8_join_b94 C hrec _ h
      · replace h := ab_neg hc5 h
        refine ab_aload_n C dX8_join_58 rfl ?_
        obtain ⟨q6, hq6, h⟩ := ab_bind h
        refine ab_inv1 C dX8_join_59 mlX8_41 yvX8_letter rkC_18 ⟨_, _, rfl⟩ mmC_18 (tX8_letter l _ hq6) (by omega) (Nat.le_of_ble_eq_true rfl) rfl (Nat.le_of_ble_eq_true rfl) ?_
        refine ab_istore C dX8_join_62 (Nat.le_of_ble_eq_true rfl) ?_
        refine ab_aload_n C dX8_join_64 rfl ?_
        refine ab_dup C dX8_join_65 rfl ?_
        refine ab_getI C dX8_join_66 flX8_28 rkC_18 rfl mmC_18 ?_
        refine ab_iconst C dX8_join_69 (v := 1) rfl ?_
        refine ab_iadd C dX8_join_70  ?_
        refine ab_putI C dX8_join_71 fpX8_28 rkC_18 rfl mmC_18 rfl rfl ?_
        refine ab_nmS (fun σ7 eσ7 => ?_)
        replace h := ab_kh eσ7 h
        refine ab_aload_n C dX8_join_74 rfl ?_
        refine ab_iload_n C dX8_join_75 rfl ?_
        refine ab_iconst C dX8_join_76 (v := 1) rfl ?_
        refine ab_iadd C dX8_join_77  ?_
        refine ab_iload_n C dX8_join_78 rfl ?_
        obtain ⟨q8, hq8, h⟩ := ab_bind h
        refine ab_inv0 C dX8_join_79 mlX8_45 yvX8_join rkC_18 ⟨_, _, rfl⟩ mmC_18 (hrec.2.1 _ _ _ _ hq8) (by omega) (Nat.le_of_ble_eq_true rfl) rfl (Nat.le_of_ble_eq_true rfl) ?_
        refine ab_aload_n C dX8_join_82 rfl ?_
        refine ab_iload C dX8_join_83 rfl ?_
        obtain ⟨q9, hq9, h⟩ := ab_bind h
        refine ab_inv0 C dX8_join_85 mlX8_49 yvX8_emit rkC_18 ⟨_, _, rfl⟩ mmC_18 (tX8_emit l _ _ hq9) (by omega) (Nat.le_of_ble_eq_true rfl) rfl (Nat.le_of_ble_eq_true rfl) ?_
        refine ab_iinc C dX8_join_88 rfl (v := 1) rfl (Nat.le_of_ble_eq_true rfl) ?_
        refine ab_goto C (tgt := 34) dX8_join_91 (by decide) ?_
        refine ab_weak (lv' := [some (.inr (.inr (18, 0))), some (.inl v1), some (.inl v2), some (.inl v3), some (.inl (v4 + 1)), none]) ⟨.inr rfl, ⟨.inr rfl, ⟨.inr rfl, ⟨.inr rfl, ⟨.inr rfl, ⟨.inl rfl, trivial⟩⟩⟩⟩⟩⟩ ?_
        exact hk34 _ _ _ _ _ h
theorem gX8_join_b34 {n : Nat} {R : ab_S} {rc0 : Int32 → ab_S → Option ab_S} {rc1 : Int32 → Int32 → ab_S → Option ab_S} {rc2 : Int32 → ab_S → Option ab_S} {rc3 : Int32 → Int32 → ab_S → Option ab_S} (C : ab_C yC p s m args meth c D cA ad cX8_join 6 RX8 none) (hrec : (∀ (x1 : Int32) (σ : ab_S), ∀ (R : ab_S), rc0 x1 σ = some R → ab_M l yC yX8_bracket cX8_bracket 2 none (2 + n) [.inr (.inr (18, 0)), .inl x1] σ none R) ∧ (∀ (x1 : Int32) (x2 : Int32) (σ : ab_S), ∀ (R : ab_S), rc1 x1 x2 σ = some R → ab_M l yC yX8_join cX8_join 6 none (2 + n) [.inr (.inr (18, 0)), .inl x1, .inl x2] σ none R) ∧ (∀ (x1 : Int32) (σ : ab_S), ∀ (R : ab_S), rc2 x1 σ = some R → ab_M l yC yX8_operand cX8_operand 3 none (2 + n) [.inr (.inr (18, 0)), .inl x1] σ none R) ∧ (∀ (x1 : Int32) (x2 : Int32) (σ : ab_S), ∀ (R : ab_S), rc3 x1 x2 σ = some R → ab_M l yC yX8_sign cX8_sign 3 none (2 + n) [.inr (.inr (18, 0)), .inl x1, .inl x2] σ none R)) : ∀ (j : Nat) (v1 : Int32) (v2 : Int32) (v3 : Int32) (v4 : Int32) (σ : ab_S), fX8_join_b34 rc0 rc1 rc2 rc3 j v1 v2 v3 v4 σ = some R → ab_G yC p l e s m args below meth c D cA ad 6 (2 + n + 1) none R 34 [some (.inr (.inr (18, 0))), some (.inl v1), some (.inl v2), some (.inl v3), some (.inl v4), none] [] σ := by
  intro j
  induction j with
  | zero => intro v1 v2 v3 v4 σ  h; cases h
  | succ j ih => intro v1 v2 v3 v4 σ  h; exact gX8_join_b34_o C hrec ih _ _ _ _ _ h
set_option maxRecDepth 100000 in
set_option maxHeartbeats 4000000 in
theorem gX8_join_b30 {n : Nat} {R : ab_S} {rc0 : Int32 → ab_S → Option ab_S} {rc1 : Int32 → Int32 → ab_S → Option ab_S} {rc2 : Int32 → ab_S → Option ab_S} {rc3 : Int32 → Int32 → ab_S → Option ab_S} (C : ab_C yC p s m args meth c D cA ad cX8_join 6 RX8 none) (hrec : (∀ (x1 : Int32) (σ : ab_S), ∀ (R : ab_S), rc0 x1 σ = some R → ab_M l yC yX8_bracket cX8_bracket 2 none (2 + n) [.inr (.inr (18, 0)), .inl x1] σ none R) ∧ (∀ (x1 : Int32) (x2 : Int32) (σ : ab_S), ∀ (R : ab_S), rc1 x1 x2 σ = some R → ab_M l yC yX8_join cX8_join 6 none (2 + n) [.inr (.inr (18, 0)), .inl x1, .inl x2] σ none R) ∧ (∀ (x1 : Int32) (σ : ab_S), ∀ (R : ab_S), rc2 x1 σ = some R → ab_M l yC yX8_operand cX8_operand 3 none (2 + n) [.inr (.inr (18, 0)), .inl x1] σ none R) ∧ (∀ (x1 : Int32) (x2 : Int32) (σ : ab_S), ∀ (R : ab_S), rc3 x1 x2 σ = some R → ab_M l yC yX8_sign cX8_sign 3 none (2 + n) [.inr (.inr (18, 0)), .inl x1, .inl x2] σ none R)) (v1 : Int32) (v2 : Int32) (t0 : Int32) (σ : ab_S) (h : fX8_join_b30 rc0 rc1 rc2 rc3 v1 v2 t0 σ = some R) : ab_G yC p l e s m args below meth c D cA ad 6 (2 + n + 1) none R 30 [some (.inr (.inr (18, 0))), some (.inl v1), some (.inl v2), none, none, none] [.inl t0] σ := by
  refine ab_istore_n C dX8_join_30 (Nat.le_of_ble_eq_true rfl) ?_
  refine ab_iconst C dX8_join_31 (v := 0) rfl ?_
  refine ab_istore C dX8_join_32 (Nat.le_of_ble_eq_true rfl) ?_
  refine ab_weak (lv' := [some (.inr (.inr (18, 0))), some (.inl v1), some (.inl v2), some (.inl t0), some (.inl 0), none]) ⟨.inr rfl, ⟨.inr rfl, ⟨.inr rfl, ⟨.inr rfl, ⟨.inr rfl, ⟨.inl rfl, trivial⟩⟩⟩⟩⟩⟩ ?_
  exact gX8_join_b34 C hrec ab_N _ _ _ _ _ h
set_option maxRecDepth 100000 in
set_option maxHeartbeats 4000000 in
theorem tX8_join_o (l : Launch) {n : Nat} {rc0 : Int32 → ab_S → Option ab_S} {rc1 : Int32 → Int32 → ab_S → Option ab_S} {rc2 : Int32 → ab_S → Option ab_S} {rc3 : Int32 → Int32 → ab_S → Option ab_S} (hrec : (∀ (x1 : Int32) (σ : ab_S), ∀ (R : ab_S), rc0 x1 σ = some R → ab_M l yC yX8_bracket cX8_bracket 2 none (2 + n) [.inr (.inr (18, 0)), .inl x1] σ none R) ∧ (∀ (x1 : Int32) (x2 : Int32) (σ : ab_S), ∀ (R : ab_S), rc1 x1 x2 σ = some R → ab_M l yC yX8_join cX8_join 6 none (2 + n) [.inr (.inr (18, 0)), .inl x1, .inl x2] σ none R) ∧ (∀ (x1 : Int32) (σ : ab_S), ∀ (R : ab_S), rc2 x1 σ = some R → ab_M l yC yX8_operand cX8_operand 3 none (2 + n) [.inr (.inr (18, 0)), .inl x1] σ none R) ∧ (∀ (x1 : Int32) (x2 : Int32) (σ : ab_S), ∀ (R : ab_S), rc3 x1 x2 σ = some R → ab_M l yC yX8_sign cX8_sign 3 none (2 + n) [.inr (.inr (18, 0)), .inl x1, .inl x2] σ none R)) (x1 : Int32) (x2 : Int32) (σ : ab_S) {R : ab_S} (h : fX8_join_o rc0 rc1 rc2 rc3 x1 x2 σ = some R) : ab_M l yC yX8_join cX8_join 6 none (2 + n + 1) [.inr (.inr (18, 0)), .inl x1, .inl x2] σ none R := by
  refine ab_M_intro ndC (by decide) (Nat.le_of_ble_eq_true rfl) ?_
  intro p e s m args below meth c D cA ad C
  have C : ab_C yC p s m args meth c D cA ad cX8_join 6 RX8 none := C
  refine ab_weak (lv' := [some (.inr (.inr (18, 0))), some (.inl x1), some (.inl x2), none, none, none]) ⟨.inr rfl, ⟨.inr rfl, ⟨.inr rfl, ⟨.inl rfl, ⟨.inl rfl, ⟨.inl rfl, trivial⟩⟩⟩⟩⟩⟩ ?_
  refine ab_iload_n C dX8_join_0 rfl ?_
  refine ab_iconst C dX8_join_1 (v := 5) rfl ?_
  refine ab_icmp_lt C (tgt := 11) dX8_join_2 (by decide) (fun hc1 => ?_) (fun hc1 => ?_)
  · replace h := ab_pos hc1 h
    refine ab_aload_n C dX8_join_11 rfl ?_
    refine ab_iload_n C dX8_join_12 rfl ?_
    refine ab_iconst C dX8_join_13 (v := 1) rfl ?_
    refine ab_iadd C dX8_join_14  ?_
    refine ab_iload_n C dX8_join_15 rfl ?_
    obtain ⟨q2, hq2, h⟩ := ab_bind h
    refine ab_inv0 C dX8_join_16 mlX8_45 yvX8_join rkC_18 ⟨_, _, rfl⟩ mmC_18 (hrec.2.1 _ _ _ _ hq2) (by omega) (Nat.le_of_ble_eq_true rfl) rfl (Nat.le_of_ble_eq_true rfl) ?_
    refine ab_iload_n C dX8_join_19 rfl ?_
    refine ab_iconst C dX8_join_20 (v := 2) rfl ?_
    refine ab_icmp_ne C (tgt := 28) dX8_join_21 (by decide) (fun hc3 => ?_) (fun hc3 => ?_)
    · replace h := ab_neg hc3 h
      refine ab_bipush C dX8_join_28 (v := 120) rfl ?_
      refine ab_weak (lv' := [some (.inr (.inr (18, 0))), some (.inl x1), some (.inl x2), none, none, none]) ⟨.inr rfl, ⟨.inr rfl, ⟨.inr rfl, ⟨.inl rfl, ⟨.inl rfl, ⟨.inl rfl, trivial⟩⟩⟩⟩⟩⟩ ?_
      exact gX8_join_b30 C hrec _ _ _ _ h
    · replace h := ab_pos hc3 h
      refine ab_iconst C dX8_join_24 (v := 1) rfl ?_
      refine ab_goto C (tgt := 30) dX8_join_25 (by decide) ?_
      refine ab_weak (lv' := [some (.inr (.inr (18, 0))), some (.inl x1), some (.inl x2), none, none, none]) ⟨.inr rfl, ⟨.inr rfl, ⟨.inr rfl, ⟨.inl rfl, ⟨.inl rfl, ⟨.inl rfl, trivial⟩⟩⟩⟩⟩⟩ ?_
      exact gX8_join_b30 C hrec _ _ _ _ h
  · replace h := ab_neg hc1 h
    refine ab_aload_n C dX8_join_5 rfl ?_
    refine ab_iload_n C dX8_join_6 rfl ?_
    obtain ⟨q4, hq4, h⟩ := ab_bind h
    refine ab_inv0 C dX8_join_7 mlX8_53 yvX8_operand rkC_18 ⟨_, _, rfl⟩ mmC_18 (hrec.2.2.1 _ _ _ hq4) (by omega) (Nat.le_of_ble_eq_true rfl) rfl (Nat.le_of_ble_eq_true rfl) ?_
    obtain rfl := Option.some.inj h
    exact ab_vret C dX8_join_10
end
section
variable {p : Program} {l : Launch} {e : Env} {s : State} {m : MethodId} {args : Array Value} {below : List Frame} {meth : Method} {c : Code} {D : va_G} {cA : Nat → ClassId} {ad : Nat → Nat → Nat}
set_option maxRecDepth 100000 in
set_option maxHeartbeats 4000000 in
theorem gX8_operand_b110 {n : Nat} {R : ab_S} {rc0 : Int32 → ab_S → Option ab_S} {rc1 : Int32 → Int32 → ab_S → Option ab_S} {rc2 : Int32 → ab_S → Option ab_S} {rc3 : Int32 → Int32 → ab_S → Option ab_S} (C : ab_C yC p s m args meth c D cA ad cX8_operand 3 RX8 none) (hrec : (∀ (x1 : Int32) (σ : ab_S), ∀ (R : ab_S), rc0 x1 σ = some R → ab_M l yC yX8_bracket cX8_bracket 2 none (2 + n) [.inr (.inr (18, 0)), .inl x1] σ none R) ∧ (∀ (x1 : Int32) (x2 : Int32) (σ : ab_S), ∀ (R : ab_S), rc1 x1 x2 σ = some R → ab_M l yC yX8_join cX8_join 6 none (2 + n) [.inr (.inr (18, 0)), .inl x1, .inl x2] σ none R) ∧ (∀ (x1 : Int32) (σ : ab_S), ∀ (R : ab_S), rc2 x1 σ = some R → ab_M l yC yX8_operand cX8_operand 3 none (2 + n) [.inr (.inr (18, 0)), .inl x1] σ none R) ∧ (∀ (x1 : Int32) (x2 : Int32) (σ : ab_S), ∀ (R : ab_S), rc3 x1 x2 σ = some R → ab_M l yC yX8_sign cX8_sign 3 none (2 + n) [.inr (.inr (18, 0)), .inl x1, .inl x2] σ none R)) (σ : ab_S) (h : fX8_operand_b110 rc0 rc1 rc2 rc3 σ = some R) : ab_G yC p l e s m args below meth c D cA ad 3 (2 + n + 1) none R 110 [none, none, none] [] σ := by
  obtain rfl := Option.some.inj h
  exact ab_vret C dX8_operand_110
set_option maxRecDepth 100000 in
set_option maxHeartbeats 4000000 in
theorem gX8_operand_b105 {n : Nat} {R : ab_S} {rc0 : Int32 → ab_S → Option ab_S} {rc1 : Int32 → Int32 → ab_S → Option ab_S} {rc2 : Int32 → ab_S → Option ab_S} {rc3 : Int32 → Int32 → ab_S → Option ab_S} (C : ab_C yC p s m args meth c D cA ad cX8_operand 3 RX8 none) (hrec : (∀ (x1 : Int32) (σ : ab_S), ∀ (R : ab_S), rc0 x1 σ = some R → ab_M l yC yX8_bracket cX8_bracket 2 none (2 + n) [.inr (.inr (18, 0)), .inl x1] σ none R) ∧ (∀ (x1 : Int32) (x2 : Int32) (σ : ab_S), ∀ (R : ab_S), rc1 x1 x2 σ = some R → ab_M l yC yX8_join cX8_join 6 none (2 + n) [.inr (.inr (18, 0)), .inl x1, .inl x2] σ none R) ∧ (∀ (x1 : Int32) (σ : ab_S), ∀ (R : ab_S), rc2 x1 σ = some R → ab_M l yC yX8_operand cX8_operand 3 none (2 + n) [.inr (.inr (18, 0)), .inl x1] σ none R) ∧ (∀ (x1 : Int32) (x2 : Int32) (σ : ab_S), ∀ (R : ab_S), rc3 x1 x2 σ = some R → ab_M l yC yX8_sign cX8_sign 3 none (2 + n) [.inr (.inr (18, 0)), .inl x1, .inl x2] σ none R)) (σ : ab_S) (h : fX8_operand_b105 rc0 rc1 rc2 rc3 σ = some R) : ab_G yC p l e s m args below meth c D cA ad 3 (2 + n + 1) none R 105 [some (.inr (.inr (18, 0))), none, none] [] σ := by
  refine ab_aload_n C dX8_operand_105 rfl ?_
  refine ab_iconst C dX8_operand_106 (v := 1) rfl ?_
  refine ab_putI C dX8_operand_107 fpX8_34 rkC_18 rfl mmC_18 rfl rfl ?_
  refine ab_nmS (fun σ1 eσ1 => ?_)
  replace h := ab_kh eσ1 h
  refine ab_weak (lv' := [none, none, none]) ⟨.inl rfl, ⟨.inl rfl, ⟨.inl rfl, trivial⟩⟩⟩ ?_
  exact gX8_operand_b110 C hrec _ h
set_option maxRecDepth 100000 in
set_option maxHeartbeats 4000000 in
theorem gX8_operand_b68 {n : Nat} {R : ab_S} {rc0 : Int32 → ab_S → Option ab_S} {rc1 : Int32 → Int32 → ab_S → Option ab_S} {rc2 : Int32 → ab_S → Option ab_S} {rc3 : Int32 → Int32 → ab_S → Option ab_S} (C : ab_C yC p s m args meth c D cA ad cX8_operand 3 RX8 none) (hrec : (∀ (x1 : Int32) (σ : ab_S), ∀ (R : ab_S), rc0 x1 σ = some R → ab_M l yC yX8_bracket cX8_bracket 2 none (2 + n) [.inr (.inr (18, 0)), .inl x1] σ none R) ∧ (∀ (x1 : Int32) (x2 : Int32) (σ : ab_S), ∀ (R : ab_S), rc1 x1 x2 σ = some R → ab_M l yC yX8_join cX8_join 6 none (2 + n) [.inr (.inr (18, 0)), .inl x1, .inl x2] σ none R) ∧ (∀ (x1 : Int32) (σ : ab_S), ∀ (R : ab_S), rc2 x1 σ = some R → ab_M l yC yX8_operand cX8_operand 3 none (2 + n) [.inr (.inr (18, 0)), .inl x1] σ none R) ∧ (∀ (x1 : Int32) (x2 : Int32) (σ : ab_S), ∀ (R : ab_S), rc3 x1 x2 σ = some R → ab_M l yC yX8_sign cX8_sign 3 none (2 + n) [.inr (.inr (18, 0)), .inl x1, .inl x2] σ none R)) (v1 : Int32) (v2 : Int32) (σ : ab_S) (h : fX8_operand_b68 rc0 rc1 rc2 rc3 v1 v2 σ = some R) : ab_G yC p l e s m args below meth c D cA ad 3 (2 + n + 1) none R 68 [some (.inr (.inr (18, 0))), some (.inl v1), some (.inl v2)] [] σ := by
  refine ab_aload_n C dX8_operand_68 rfl ?_
  refine ab_dup C dX8_operand_69 rfl ?_
  refine ab_getI C dX8_operand_70 flX8_28 rkC_18 rfl mmC_18 ?_
  refine ab_iconst C dX8_operand_73 (v := 1) rfl ?_
  refine ab_iadd C dX8_operand_74  ?_
  refine ab_putI C dX8_operand_75 fpX8_28 rkC_18 rfl mmC_18 rfl rfl ?_
  refine ab_nmS (fun σ1 eσ1 => ?_)
  replace h := ab_kh eσ1 h
  refine ab_iload_n C dX8_operand_78 rfl ?_
  refine ab_bipush C dX8_operand_79 (v := 40) rfl ?_
  refine ab_icmp_ne C (tgt := 94) dX8_operand_81 (by decide) (fun hc2 => ?_) (fun hc2 => ?_)
  · replace h := ab_neg hc2 h
    refine ab_aload_n C dX8_operand_94 rfl ?_
    refine ab_iload_n C dX8_operand_95 rfl ?_
    refine ab_iload_n C dX8_operand_96 rfl ?_
    refine ab_iconst C dX8_operand_97 (v := 1) rfl ?_
    refine ab_iadd C dX8_operand_98  ?_
    obtain ⟨q3, hq3, h⟩ := ab_bind h
    refine ab_inv0 C dX8_operand_99 mlX8_73 yvX8_sign rkC_18 ⟨_, _, rfl⟩ mmC_18 (hrec.2.2.2 _ _ _ _ hq3) (by omega) (Nat.le_of_ble_eq_true rfl) rfl (Nat.le_of_ble_eq_true rfl) ?_
    refine ab_goto C (tgt := 110) dX8_operand_102 (by decide) ?_
    refine ab_weak (lv' := [none, none, none]) ⟨.inl rfl, ⟨.inl rfl, ⟨.inl rfl, trivial⟩⟩⟩ ?_
    exact gX8_operand_b110 C hrec _ h
  · replace h := ab_pos hc2 h
    refine ab_aload_n C dX8_operand_84 rfl ?_
    refine ab_iload_n C dX8_operand_85 rfl ?_
    refine ab_iconst C dX8_operand_86 (v := 1) rfl ?_
    refine ab_iadd C dX8_operand_87  ?_
    obtain ⟨q4, hq4, h⟩ := ab_bind h
    refine ab_inv0 C dX8_operand_88 mlX8_70 yvX8_bracket rkC_18 ⟨_, _, rfl⟩ mmC_18 (hrec.1 _ _ _ hq4) (by omega) (Nat.le_of_ble_eq_true rfl) rfl (Nat.le_of_ble_eq_true rfl) ?_
    refine ab_goto C (tgt := 110) dX8_operand_91 (by decide) ?_
    refine ab_weak (lv' := [none, none, none]) ⟨.inl rfl, ⟨.inl rfl, ⟨.inl rfl, trivial⟩⟩⟩ ?_
    exact gX8_operand_b110 C hrec _ h
set_option maxRecDepth 100000 in
set_option maxHeartbeats 4000000 in
theorem tX8_operand_o (l : Launch) {n : Nat} {rc0 : Int32 → ab_S → Option ab_S} {rc1 : Int32 → Int32 → ab_S → Option ab_S} {rc2 : Int32 → ab_S → Option ab_S} {rc3 : Int32 → Int32 → ab_S → Option ab_S} (hrec : (∀ (x1 : Int32) (σ : ab_S), ∀ (R : ab_S), rc0 x1 σ = some R → ab_M l yC yX8_bracket cX8_bracket 2 none (2 + n) [.inr (.inr (18, 0)), .inl x1] σ none R) ∧ (∀ (x1 : Int32) (x2 : Int32) (σ : ab_S), ∀ (R : ab_S), rc1 x1 x2 σ = some R → ab_M l yC yX8_join cX8_join 6 none (2 + n) [.inr (.inr (18, 0)), .inl x1, .inl x2] σ none R) ∧ (∀ (x1 : Int32) (σ : ab_S), ∀ (R : ab_S), rc2 x1 σ = some R → ab_M l yC yX8_operand cX8_operand 3 none (2 + n) [.inr (.inr (18, 0)), .inl x1] σ none R) ∧ (∀ (x1 : Int32) (x2 : Int32) (σ : ab_S), ∀ (R : ab_S), rc3 x1 x2 σ = some R → ab_M l yC yX8_sign cX8_sign 3 none (2 + n) [.inr (.inr (18, 0)), .inl x1, .inl x2] σ none R)) (x1 : Int32) (σ : ab_S) {R : ab_S} (h : fX8_operand_o rc0 rc1 rc2 rc3 x1 σ = some R) : ab_M l yC yX8_operand cX8_operand 3 none (2 + n + 1) [.inr (.inr (18, 0)), .inl x1] σ none R := by
  refine ab_M_intro ndC (by decide) (Nat.le_of_ble_eq_true rfl) ?_
  intro p e s m args below meth c D cA ad C
  have C : ab_C yC p s m args meth c D cA ad cX8_operand 3 RX8 none := C
  refine ab_weak (lv' := [some (.inr (.inr (18, 0))), some (.inl x1), none]) ⟨.inr rfl, ⟨.inr rfl, ⟨.inl rfl, trivial⟩⟩⟩ ?_
  refine ab_aload_n C dX8_operand_0 rfl ?_
  obtain ⟨q1, hq1, h⟩ := ab_bind h
  refine ab_inv1 C dX8_operand_1 mlX8_41 yvX8_letter rkC_18 ⟨_, _, rfl⟩ mmC_18 (tX8_letter l _ hq1) (by omega) (Nat.le_of_ble_eq_true rfl) rfl (Nat.le_of_ble_eq_true rfl) ?_
  refine ab_istore_n C dX8_operand_4 (Nat.le_of_ble_eq_true rfl) ?_
  refine ab_iload_n C dX8_operand_5 rfl ?_
  obtain ⟨q2, hq2, h⟩ := ab_bind h
  refine ab_invS1 C dX8_operand_6 mlX8_60 ysX8_isDigit (tX8_isDigit l _ _ hq2) (by omega) (Nat.le_of_ble_eq_true rfl) rfl (Nat.le_of_ble_eq_true rfl) ?_
  refine ab_if_eq C (tgt := 19) dX8_operand_9 (by decide) (fun hc3 => ?_) (fun hc3 => ?_)
  · replace h := ab_pos hc3 h
    refine ab_iload_n C dX8_operand_19 rfl ?_
    obtain ⟨q4, hq4, h⟩ := ab_bind h
    refine ab_invS1 C dX8_operand_20 mlX8_67 ysX8_isName (tX8_isName l _ _ hq4) (by omega) (Nat.le_of_ble_eq_true rfl) rfl (Nat.le_of_ble_eq_true rfl) ?_
    refine ab_if_eq C (tgt := 44) dX8_operand_23 (by decide) (fun hc5 => ?_) (fun hc5 => ?_)
    · replace h := ab_pos hc5 h
      refine ab_iload_n C dX8_operand_44 rfl ?_
      refine ab_bipush C dX8_operand_45 (v := 6) rfl ?_
      refine ab_icmp_ge C (tgt := 105) dX8_operand_47 (by decide) (fun hc6 => ?_) (fun hc6 => ?_)
      · replace h := ab_pos hc6 h
        refine ab_weak (lv' := [some (.inr (.inr (18, 0))), none, none]) ⟨.inr rfl, ⟨.inl rfl, ⟨.inl rfl, trivial⟩⟩⟩ ?_
        exact gX8_operand_b105 C hrec _ h
      · replace h := ab_neg hc6 h
        refine ab_iload_n C dX8_operand_50 rfl ?_
        refine ab_bipush C dX8_operand_51 (v := 40) rfl ?_
        refine ab_icmp_eq C (tgt := 68) dX8_operand_53 (by decide) (fun hc7 => ?_) (fun hc7 => ?_)
        · replace h := ab_pos hc7 h
          refine ab_weak (lv' := [some (.inr (.inr (18, 0))), some (.inl x1), some (.inl q1)]) ⟨.inr rfl, ⟨.inr rfl, ⟨.inr rfl, trivial⟩⟩⟩ ?_
          exact gX8_operand_b68 C hrec _ _ _ h
        · replace h := ab_neg hc7 h
          refine ab_iload_n C dX8_operand_56 rfl ?_
          refine ab_bipush C dX8_operand_57 (v := 33) rfl ?_
          refine ab_icmp_eq C (tgt := 68) dX8_operand_59 (by decide) (fun hc8 => ?_) (fun hc8 => ?_)
          · replace h := ab_pos hc8 h
            refine ab_weak (lv' := [some (.inr (.inr (18, 0))), some (.inl x1), some (.inl q1)]) ⟨.inr rfl, ⟨.inr rfl, ⟨.inr rfl, trivial⟩⟩⟩ ?_
            exact gX8_operand_b68 C hrec _ _ _ h
          · replace h := ab_neg hc8 h
            refine ab_iload_n C dX8_operand_62 rfl ?_
            refine ab_bipush C dX8_operand_63 (v := 45) rfl ?_
            refine ab_icmp_ne C (tgt := 105) dX8_operand_65 (by decide) (fun hc9 => ?_) (fun hc9 => ?_)
            · replace h := ab_neg hc9 h
              refine ab_weak (lv' := [some (.inr (.inr (18, 0))), none, none]) ⟨.inr rfl, ⟨.inl rfl, ⟨.inl rfl, trivial⟩⟩⟩ ?_
              exact gX8_operand_b105 C hrec _ h
            · replace h := ab_pos hc9 h
              refine ab_weak (lv' := [some (.inr (.inr (18, 0))), some (.inl x1), some (.inl q1)]) ⟨.inr rfl, ⟨.inr rfl, ⟨.inr rfl, trivial⟩⟩⟩ ?_
              exact gX8_operand_b68 C hrec _ _ _ h
    · replace h := ab_neg hc5 h
      refine ab_aload_n C dX8_operand_26 rfl ?_
      refine ab_dup C dX8_operand_27 rfl ?_
      refine ab_getI C dX8_operand_28 flX8_28 rkC_18 rfl mmC_18 ?_
      refine ab_iconst C dX8_operand_31 (v := 1) rfl ?_
      refine ab_iadd C dX8_operand_32  ?_
      refine ab_putI C dX8_operand_33 fpX8_28 rkC_18 rfl mmC_18 rfl rfl ?_
      refine ab_nmS (fun σ10 eσ10 => ?_)
      replace h := ab_kh eσ10 h
      refine ab_aload_n C dX8_operand_36 rfl ?_
      refine ab_iload_n C dX8_operand_37 rfl ?_
      obtain ⟨q11, hq11, h⟩ := ab_bind h
      refine ab_inv0 C dX8_operand_38 mlX8_49 yvX8_emit rkC_18 ⟨_, _, rfl⟩ mmC_18 (tX8_emit l _ _ hq11) (by omega) (Nat.le_of_ble_eq_true rfl) rfl (Nat.le_of_ble_eq_true rfl) ?_
      refine ab_goto C (tgt := 110) dX8_operand_41 (by decide) ?_
      refine ab_weak (lv' := [none, none, none]) ⟨.inl rfl, ⟨.inl rfl, ⟨.inl rfl, trivial⟩⟩⟩ ?_
      exact gX8_operand_b110 C hrec _ h
  · replace h := ab_neg hc3 h
    refine ab_aload_n C dX8_operand_12 rfl ?_
    obtain ⟨q12, hq12, h⟩ := ab_bind h
    refine ab_inv0 C dX8_operand_13 mlX8_64 yvX8_number rkC_18 ⟨_, _, rfl⟩ mmC_18 (tX8_number l _ hq12) (by omega) (Nat.le_of_ble_eq_true rfl) rfl (Nat.le_of_ble_eq_true rfl) ?_
    refine ab_goto C (tgt := 110) dX8_operand_16 (by decide) ?_
    refine ab_weak (lv' := [none, none, none]) ⟨.inl rfl, ⟨.inl rfl, ⟨.inl rfl, trivial⟩⟩⟩ ?_
    exact gX8_operand_b110 C hrec _ h
end
section
variable {p : Program} {l : Launch} {e : Env} {s : State} {m : MethodId} {args : Array Value} {below : List Frame} {meth : Method} {c : Code} {D : va_G} {cA : Nat → ClassId} {ad : Nat → Nat → Nat}
set_option maxRecDepth 100000 in
set_option maxHeartbeats 4000000 in
theorem gX8_sign_b18 {n : Nat} {R : ab_S} {rc0 : Int32 → ab_S → Option ab_S} {rc1 : Int32 → Int32 → ab_S → Option ab_S} {rc2 : Int32 → ab_S → Option ab_S} {rc3 : Int32 → Int32 → ab_S → Option ab_S} (C : ab_C yC p s m args meth c D cA ad cX8_sign 3 RX8 none) (hrec : (∀ (x1 : Int32) (σ : ab_S), ∀ (R : ab_S), rc0 x1 σ = some R → ab_M l yC yX8_bracket cX8_bracket 2 none (2 + n) [.inr (.inr (18, 0)), .inl x1] σ none R) ∧ (∀ (x1 : Int32) (x2 : Int32) (σ : ab_S), ∀ (R : ab_S), rc1 x1 x2 σ = some R → ab_M l yC yX8_join cX8_join 6 none (2 + n) [.inr (.inr (18, 0)), .inl x1, .inl x2] σ none R) ∧ (∀ (x1 : Int32) (σ : ab_S), ∀ (R : ab_S), rc2 x1 σ = some R → ab_M l yC yX8_operand cX8_operand 3 none (2 + n) [.inr (.inr (18, 0)), .inl x1] σ none R) ∧ (∀ (x1 : Int32) (x2 : Int32) (σ : ab_S), ∀ (R : ab_S), rc3 x1 x2 σ = some R → ab_M l yC yX8_sign cX8_sign 3 none (2 + n) [.inr (.inr (18, 0)), .inl x1, .inl x2] σ none R)) (t1 : Int32) (σ : ab_S) (h : fX8_sign_b18 rc0 rc1 rc2 rc3 t1 σ = some R) : ab_G yC p l e s m args below meth c D cA ad 3 (2 + n + 1) none R 18 [none, none, none] [.inl t1, .inr (.inr (18, 0))] σ := by
  obtain ⟨q1, hq1, h⟩ := ab_bind h
  refine ab_inv0 C dX8_sign_18 mlX8_49 yvX8_emit rkC_18 ⟨_, _, rfl⟩ mmC_18 (tX8_emit l _ _ hq1) (by omega) (Nat.le_of_ble_eq_true rfl) rfl (Nat.le_of_ble_eq_true rfl) ?_
  obtain rfl := Option.some.inj h
  exact ab_vret C dX8_sign_21
set_option maxRecDepth 100000 in
set_option maxHeartbeats 4000000 in
theorem tX8_sign_o (l : Launch) {n : Nat} {rc0 : Int32 → ab_S → Option ab_S} {rc1 : Int32 → Int32 → ab_S → Option ab_S} {rc2 : Int32 → ab_S → Option ab_S} {rc3 : Int32 → Int32 → ab_S → Option ab_S} (hrec : (∀ (x1 : Int32) (σ : ab_S), ∀ (R : ab_S), rc0 x1 σ = some R → ab_M l yC yX8_bracket cX8_bracket 2 none (2 + n) [.inr (.inr (18, 0)), .inl x1] σ none R) ∧ (∀ (x1 : Int32) (x2 : Int32) (σ : ab_S), ∀ (R : ab_S), rc1 x1 x2 σ = some R → ab_M l yC yX8_join cX8_join 6 none (2 + n) [.inr (.inr (18, 0)), .inl x1, .inl x2] σ none R) ∧ (∀ (x1 : Int32) (σ : ab_S), ∀ (R : ab_S), rc2 x1 σ = some R → ab_M l yC yX8_operand cX8_operand 3 none (2 + n) [.inr (.inr (18, 0)), .inl x1] σ none R) ∧ (∀ (x1 : Int32) (x2 : Int32) (σ : ab_S), ∀ (R : ab_S), rc3 x1 x2 σ = some R → ab_M l yC yX8_sign cX8_sign 3 none (2 + n) [.inr (.inr (18, 0)), .inl x1, .inl x2] σ none R)) (x1 : Int32) (x2 : Int32) (σ : ab_S) {R : ab_S} (h : fX8_sign_o rc0 rc1 rc2 rc3 x1 x2 σ = some R) : ab_M l yC yX8_sign cX8_sign 3 none (2 + n + 1) [.inr (.inr (18, 0)), .inl x1, .inl x2] σ none R := by
  refine ab_M_intro ndC (by decide) (Nat.le_of_ble_eq_true rfl) ?_
  intro p e s m args below meth c D cA ad C
  have C : ab_C yC p s m args meth c D cA ad cX8_sign 3 RX8 none := C
  refine ab_weak (lv' := [some (.inr (.inr (18, 0))), some (.inl x1), some (.inl x2)]) ⟨.inr rfl, ⟨.inr rfl, ⟨.inr rfl, trivial⟩⟩⟩ ?_
  refine ab_aload_n C dX8_sign_0 rfl ?_
  refine ab_iload_n C dX8_sign_1 rfl ?_
  obtain ⟨q1, hq1, h⟩ := ab_bind h
  refine ab_inv0 C dX8_sign_2 mlX8_53 yvX8_operand rkC_18 ⟨_, _, rfl⟩ mmC_18 (hrec.2.2.1 _ _ _ hq1) (by omega) (Nat.le_of_ble_eq_true rfl) rfl (Nat.le_of_ble_eq_true rfl) ?_
  refine ab_aload_n C dX8_sign_5 rfl ?_
  refine ab_iload_n C dX8_sign_6 rfl ?_
  refine ab_bipush C dX8_sign_7 (v := 45) rfl ?_
  refine ab_icmp_ne C (tgt := 17) dX8_sign_9 (by decide) (fun hc2 => ?_) (fun hc2 => ?_)
  · replace h := ab_neg hc2 h
    refine ab_iload_n C dX8_sign_17 rfl ?_
    refine ab_weak (lv' := [none, none, none]) ⟨.inl rfl, ⟨.inl rfl, ⟨.inl rfl, trivial⟩⟩⟩ ?_
    exact gX8_sign_b18 C hrec _ _ h
  · replace h := ab_pos hc2 h
    refine ab_bipush C dX8_sign_12 (v := 126) rfl ?_
    refine ab_goto C (tgt := 18) dX8_sign_14 (by decide) ?_
    refine ab_weak (lv' := [none, none, none]) ⟨.inl rfl, ⟨.inl rfl, ⟨.inl rfl, trivial⟩⟩⟩ ?_
    exact gX8_sign_b18 C hrec _ _ h
end
theorem tzX8_bracket (l : Launch) : ∀ n : Nat, (∀ (x1 : Int32) (σ : ab_S), ∀ (R : ab_S), fX8_bracket n x1 σ = some R → ab_M l yC yX8_bracket cX8_bracket 2 none (2 + n) [.inr (.inr (18, 0)), .inl x1] σ none R) ∧ (∀ (x1 : Int32) (x2 : Int32) (σ : ab_S), ∀ (R : ab_S), fX8_join n x1 x2 σ = some R → ab_M l yC yX8_join cX8_join 6 none (2 + n) [.inr (.inr (18, 0)), .inl x1, .inl x2] σ none R) ∧ (∀ (x1 : Int32) (σ : ab_S), ∀ (R : ab_S), fX8_operand n x1 σ = some R → ab_M l yC yX8_operand cX8_operand 3 none (2 + n) [.inr (.inr (18, 0)), .inl x1] σ none R) ∧ (∀ (x1 : Int32) (x2 : Int32) (σ : ab_S), ∀ (R : ab_S), fX8_sign n x1 x2 σ = some R → ab_M l yC yX8_sign cX8_sign 3 none (2 + n) [.inr (.inr (18, 0)), .inl x1, .inl x2] σ none R) := by
  intro n
  induction n with
  | zero => exact ⟨fun _ _ _ h => (by cases h), fun _ _ _ _ h => (by cases h), fun _ _ _ h => (by cases h), fun _ _ _ _ h => (by cases h)⟩
  | succ n ih => exact ⟨fun a0 a1 R h => tX8_bracket_o l ih a0 a1 h, fun a0 a1 a2 R h => tX8_join_o l ih a0 a1 a2 h, fun a0 a1 R h => tX8_operand_o l ih a0 a1 h, fun a0 a1 a2 R h => tX8_sign_o l ih a0 a1 a2 h⟩
theorem tX8_bracket (n : Nat) (l : Launch) (x1 : Int32) (σ : ab_S) {R : ab_S} (h : fX8_bracket n x1 σ = some R) : ab_M l yC yX8_bracket cX8_bracket 2 none (2 + n) [.inr (.inr (18, 0)), .inl x1] σ none R := (tzX8_bracket l n).1 x1 σ  R h
theorem tX8_join (n : Nat) (l : Launch) (x1 : Int32) (x2 : Int32) (σ : ab_S) {R : ab_S} (h : fX8_join n x1 x2 σ = some R) : ab_M l yC yX8_join cX8_join 6 none (2 + n) [.inr (.inr (18, 0)), .inl x1, .inl x2] σ none R := (tzX8_bracket l n).2.1 x1 x2 σ  R h
theorem tX8_operand (n : Nat) (l : Launch) (x1 : Int32) (σ : ab_S) {R : ab_S} (h : fX8_operand n x1 σ = some R) : ab_M l yC yX8_operand cX8_operand 3 none (2 + n) [.inr (.inr (18, 0)), .inl x1] σ none R := (tzX8_bracket l n).2.2.1 x1 σ  R h
theorem tX8_sign (n : Nat) (l : Launch) (x1 : Int32) (x2 : Int32) (σ : ab_S) {R : ab_S} (h : fX8_sign n x1 x2 σ = some R) : ab_M l yC yX8_sign cX8_sign 3 none (2 + n) [.inr (.inr (18, 0)), .inl x1, .inl x2] σ none R := (tzX8_bracket l n).2.2.2 x1 x2 σ  R h
def fX8_clear (σ : ab_S) : Option ab_S := ab_k (ab_si σ 18 0 2 0) fun σ1 => some σ1
section
variable {p : Program} {l : Launch} {e : Env} {s : State} {m : MethodId} {args : Array Value} {below : List Frame} {meth : Method} {c : Code} {D : va_G} {cA : Nat → ClassId} {ad : Nat → Nat → Nat}
set_option maxRecDepth 100000 in
set_option maxHeartbeats 4000000 in
theorem tX8_clear (l : Launch) (σ : ab_S) {R : ab_S} (h : fX8_clear σ = some R) : ab_M l yC yX8_clear cX8_clear 1 none 0 [.inr (.inr (18, 0))] σ none R := by
  refine ab_M_intro ndC (by decide) (Nat.le_of_ble_eq_true rfl) ?_
  intro p e s m args below meth c D cA ad C
  have C : ab_C yC p s m args meth c D cA ad cX8_clear 1 RX8 none := C
  refine ab_weak (lv' := [some (.inr (.inr (18, 0)))]) ⟨.inr rfl, trivial⟩ ?_
  refine ab_aload_n C dX8_clear_0 rfl ?_
  refine ab_iconst C dX8_clear_1 (v := 0) rfl ?_
  refine ab_putI C dX8_clear_2 fpX8_20 rkC_18 rfl mmC_18 rfl rfl ?_
  refine ab_nmS (fun σ1 eσ1 => ?_)
  replace h := ab_kh eσ1 h
  obtain rfl := Option.some.inj h
  exact ab_vret C dX8_clear_5
end
def fX8_line_b44 (σ : ab_S) : Option ab_S := (fX8_emit 59 σ).bind fun q1 => some q1
def fX8_line (σ : ab_S) : Option ab_S := ((fX8_join 64) 0 0 σ).bind fun q1 => (if (q1.1 18 0 5) = 0 then (fX8_letter q1).bind fun q3 => (if q3 = 63 then ab_k (ab_si q1 18 0 4 ((q1.1 18 0 4) + 1)) fun σ5 => (fX8_emit 63 σ5).bind fun q6 => ((fX8_join 64) 0 0 q6).bind fun q7 => fX8_line_b44 q7 else fX8_line_b44 q1) else fX8_line_b44 q1)
section
variable {p : Program} {l : Launch} {e : Env} {s : State} {m : MethodId} {args : Array Value} {below : List Frame} {meth : Method} {c : Code} {D : va_G} {cA : Nat → ClassId} {ad : Nat → Nat → Nat}
set_option maxRecDepth 100000 in
set_option maxHeartbeats 4000000 in
theorem gX8_line_b44 {R : ab_S} (C : ab_C yC p s m args meth c D cA ad cX8_line 1 RX8 none) (σ : ab_S) (h : fX8_line_b44 σ = some R) : ab_G yC p l e s m args below meth c D cA ad 1 67 none R 44 [some (.inr (.inr (18, 0)))] [] σ := by
  refine ab_aload_n C dX8_line_44 rfl ?_
  refine ab_bipush C dX8_line_45 (v := 59) rfl ?_
  obtain ⟨q1, hq1, h⟩ := ab_bind h
  refine ab_inv0 C dX8_line_47 mlX8_49 yvX8_emit rkC_18 ⟨_, _, rfl⟩ mmC_18 (tX8_emit l _ _ hq1) (Nat.le_of_ble_eq_true rfl) (Nat.le_of_ble_eq_true rfl) rfl (Nat.le_of_ble_eq_true rfl) ?_
  obtain rfl := Option.some.inj h
  exact ab_vret C dX8_line_50
set_option maxRecDepth 100000 in
set_option maxHeartbeats 4000000 in
theorem tX8_line (l : Launch) (σ : ab_S) {R : ab_S} (h : fX8_line σ = some R) : ab_M l yC yX8_line cX8_line 1 none 67 [.inr (.inr (18, 0))] σ none R := by
  refine ab_M_intro ndC (by decide) (Nat.le_of_ble_eq_true rfl) ?_
  intro p e s m args below meth c D cA ad C
  have C : ab_C yC p s m args meth c D cA ad cX8_line 1 RX8 none := C
  refine ab_weak (lv' := [some (.inr (.inr (18, 0)))]) ⟨.inr rfl, trivial⟩ ?_
  refine ab_aload_n C dX8_line_0 rfl ?_
  refine ab_iconst C dX8_line_1 (v := 0) rfl ?_
  refine ab_iconst C dX8_line_2 (v := 0) rfl ?_
  obtain ⟨q1, hq1, h⟩ := ab_bind h
  refine ab_inv0 C dX8_line_3 mlX8_45 yvX8_join rkC_18 ⟨_, _, rfl⟩ mmC_18 (tX8_join 64 l _ _ _ hq1) (Nat.le_of_ble_eq_true rfl) (Nat.le_of_ble_eq_true rfl) rfl (Nat.le_of_ble_eq_true rfl) ?_
  refine ab_aload_n C dX8_line_6 rfl ?_
  refine ab_getI C dX8_line_7 flX8_34 rkC_18 rfl mmC_18 ?_
  refine ab_if_ne C (tgt := 44) dX8_line_10 (by decide) (fun hc2 => ?_) (fun hc2 => ?_)
  · replace h := ab_neg hc2 h
    refine ab_weak (lv' := [some (.inr (.inr (18, 0)))]) ⟨.inr rfl, trivial⟩ ?_
    exact gX8_line_b44 C _ h
  · replace h := ab_pos hc2 h
    refine ab_aload_n C dX8_line_13 rfl ?_
    obtain ⟨q3, hq3, h⟩ := ab_bind h
    refine ab_inv1 C dX8_line_14 mlX8_41 yvX8_letter rkC_18 ⟨_, _, rfl⟩ mmC_18 (tX8_letter l _ hq3) (Nat.le_of_ble_eq_true rfl) (Nat.le_of_ble_eq_true rfl) rfl (Nat.le_of_ble_eq_true rfl) ?_
    refine ab_bipush C dX8_line_17 (v := 63) rfl ?_
    refine ab_icmp_ne C (tgt := 44) dX8_line_19 (by decide) (fun hc4 => ?_) (fun hc4 => ?_)
    · replace h := ab_neg hc4 h
      refine ab_weak (lv' := [some (.inr (.inr (18, 0)))]) ⟨.inr rfl, trivial⟩ ?_
      exact gX8_line_b44 C _ h
    · replace h := ab_pos hc4 h
      refine ab_aload_n C dX8_line_22 rfl ?_
      refine ab_dup C dX8_line_23 rfl ?_
      refine ab_getI C dX8_line_24 flX8_28 rkC_18 rfl mmC_18 ?_
      refine ab_iconst C dX8_line_27 (v := 1) rfl ?_
      refine ab_iadd C dX8_line_28  ?_
      refine ab_putI C dX8_line_29 fpX8_28 rkC_18 rfl mmC_18 rfl rfl ?_
      refine ab_nmS (fun σ5 eσ5 => ?_)
      replace h := ab_kh eσ5 h
      refine ab_aload_n C dX8_line_32 rfl ?_
      refine ab_bipush C dX8_line_33 (v := 63) rfl ?_
      obtain ⟨q6, hq6, h⟩ := ab_bind h
      refine ab_inv0 C dX8_line_35 mlX8_49 yvX8_emit rkC_18 ⟨_, _, rfl⟩ mmC_18 (tX8_emit l _ _ hq6) (Nat.le_of_ble_eq_true rfl) (Nat.le_of_ble_eq_true rfl) rfl (Nat.le_of_ble_eq_true rfl) ?_
      refine ab_aload_n C dX8_line_38 rfl ?_
      refine ab_iconst C dX8_line_39 (v := 0) rfl ?_
      refine ab_iconst C dX8_line_40 (v := 0) rfl ?_
      obtain ⟨q7, hq7, h⟩ := ab_bind h
      refine ab_inv0 C dX8_line_41 mlX8_45 yvX8_join rkC_18 ⟨_, _, rfl⟩ mmC_18 (tX8_join 64 l _ _ _ hq7) (Nat.le_of_ble_eq_true rfl) (Nat.le_of_ble_eq_true rfl) rfl (Nat.le_of_ble_eq_true rfl) ?_
      refine ab_weak (lv' := [some (.inr (.inr (18, 0)))]) ⟨.inr rfl, trivial⟩ ?_
      exact gX8_line_b44 C _ h
end
