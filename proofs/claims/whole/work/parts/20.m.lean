def fX10_best_b18 (t0 : Int32) (σ : ab_S) : Option (Int32 × ab_S) := some (t0, σ)
def fX10_best (σ : ab_S) : Option (Int32 × ab_S) := (fX10_comes σ).bind fun q1 => (if (lg_cmp q1.1 0) = 0 then fX10_best_b18 ((-2)) q1.2 else (fX10_bestCome q1.2).bind fun q3 => fX10_best_b18 q3 q1.2)
section
variable {p : Program} {l : Launch} {e : Env} {s : State} {m : MethodId} {args : Array Value} {below : List Frame} {meth : Method} {c : Code} {D : va_G} {cA : Nat → ClassId} {ad : Nat → Nat → Nat}
set_option maxRecDepth 100000 in
set_option maxHeartbeats 4000000 in
theorem gX10_best_b18 {R : (Int32 × ab_S)} (C : ab_C yM p s m args meth c D cA ad cX10_best 1 RX10 (some .int)) (t0 : Int32) (σ : ab_S) (h : fX10_best_b18 t0 σ = some R) : ab_G yM p l e s m args below meth c D cA ad 1 71 (some (.inl R.1)) R.2 18 [none] [.inl t0] σ := by
  obtain rfl := Option.some.inj h
  exact ab_iret C dX10_best_18
set_option maxRecDepth 100000 in
set_option maxHeartbeats 4000000 in
theorem tX10_best (l : Launch) (σ : ab_S) {R : (Int32 × ab_S)} (h : fX10_best σ = some R) : ab_M l yM yX10_best cX10_best 1 (some .int) 71 [.inr (.inr (0, 0))] σ (some (.inl R.1)) R.2 := by
  refine ab_M_intro ndM (by decide) (Nat.le_of_ble_eq_true rfl) ?_
  intro p e s m args below meth c D cA ad C
  have C : ab_C yM p s m args meth c D cA ad cX10_best 1 RX10 (some .int) := C
  refine ab_weak (lv' := [some (.inr (.inr (0, 0)))]) ⟨.inr rfl, trivial⟩ ?_
  refine ab_aload_n C dX10_best_0 rfl ?_
  obtain ⟨q1, hq1, h⟩ := ab_bind h
  refine ab_inv1 C dX10_best_1 mlX10_222 yvX10_comes rkM_0 ⟨_, _, rfl⟩ mmM_0 (tX10_comes l _ hq1) (Nat.le_of_ble_eq_true rfl) (Nat.le_of_ble_eq_true rfl) rfl (Nat.le_of_ble_eq_true rfl) ?_
  refine ab_lconst C dX10_best_4 (v := 0) rfl ?_
  refine ab_lcmp C dX10_best_5  ?_
  refine ab_if_ne C (tgt := 14) dX10_best_6 (by decide) (fun hc2 => ?_) (fun hc2 => ?_)
  · replace h := ab_neg hc2 h
    refine ab_aload_n C dX10_best_14 rfl ?_
    obtain ⟨q3, hq3, h⟩ := ab_bind h
    refine ab_inv1 C dX10_best_15 mlX10_232 yvX10_bestCome rkM_0 ⟨_, _, rfl⟩ mmM_0 (tX10_bestCome l _ hq3) (Nat.le_of_ble_eq_true rfl) (Nat.le_of_ble_eq_true rfl) rfl (Nat.le_of_ble_eq_true rfl) ?_
    refine ab_weak (lv' := [none]) ⟨.inl rfl, trivial⟩ ?_
    exact gX10_best_b18 C _ _ h
  · replace h := ab_pos hc2 h
    refine ab_bipush C dX10_best_9 (v := (-2)) rfl ?_
    refine ab_goto C (tgt := 18) dX10_best_11 (by decide) ?_
    refine ab_weak (lv' := [none]) ⟨.inl rfl, trivial⟩ ?_
    exact gX10_best_b18 C _ _ h
end
def fX10_goesBy_b3_o (kk3 : Int32 → Int32 → Int32 → Int32 → Int32 → Int32 → ab_S → Option ab_S) (v1 : Int32) (v2 : Int32) (v3 : Int32) (v4 : Int32) (v5 : Int32) (v6 : Int32) (σ : ab_S) : Option ab_S := (if (σ.1 0 0 6) ≤ v6 then some σ else (if ab_inb ((5 * v2) + v6) 20 = true then (fX10_actIs v1 v6 v3 v4 v2 v5 σ).bind fun q3 => (if ab_inb ((5 * (v2 + 1)) + v6) 20 = true then ab_k (ab_sl q3.2 13 0 (((5 * (v2 + 1)) + v6).toNatClampNeg) ((σ.2 13 0 (((5 * v2) + v6).toNatClampNeg)) * q3.1)) fun σ5 => kk3 v1 v2 v3 v4 v5 (v6 + 1) σ5 else none) else none))
def fX10_goesBy_b3 : Nat → Int32 → Int32 → Int32 → Int32 → Int32 → Int32 → ab_S → Option ab_S
  | 0 => fun _ _ _ _ _ _ _ => none
  | n + 1 => fX10_goesBy_b3_o  (fX10_goesBy_b3 n)
def fX10_goesBy (x1 : Int32) (x2 : Int32) (x3 : Int32) (x4 : Int32) (x5 : Int32) (σ : ab_S) : Option ab_S := fX10_goesBy_b3 ab_N x1 x2 x3 x4 x5 0 σ
section
variable {p : Program} {l : Launch} {e : Env} {s : State} {m : MethodId} {args : Array Value} {below : List Frame} {meth : Method} {c : Code} {D : va_G} {cA : Nat → ClassId} {ad : Nat → Nat → Nat}
set_option maxRecDepth 100000 in
set_option maxHeartbeats 4000000 in
theorem gX10_goesBy_b3_o {R : ab_S} (C : ab_C yM p s m args meth c D cA ad cX10_goesBy 7 RX10 none) {kk3 : Int32 → Int32 → Int32 → Int32 → Int32 → Int32 → ab_S → Option ab_S} (hk3 : ∀ (v1 : Int32) (v2 : Int32) (v3 : Int32) (v4 : Int32) (v5 : Int32) (v6 : Int32) (σ : ab_S), kk3 v1 v2 v3 v4 v5 v6 σ = some R → ab_G yM p l e s m args below meth c D cA ad 7 70 none R 3 [some (.inr (.inr (0, 0))), some (.inl v1), some (.inl v2), some (.inl v3), some (.inl v4), some (.inl v5), some (.inl v6)] [] σ) (v1 : Int32) (v2 : Int32) (v3 : Int32) (v4 : Int32) (v5 : Int32) (v6 : Int32) (σ : ab_S) (h : fX10_goesBy_b3_o kk3 v1 v2 v3 v4 v5 v6 σ = some R) : ab_G yM p l e s m args below meth c D cA ad 7 70 none R 3 [some (.inr (.inr (0, 0))), some (.inl v1), some (.inl v2), some (.inl v3), some (.inl v4), some (.inl v5), some (.inl v6)] [] σ := by
  refine ab_iload C dX10_goesBy_3 rfl ?_
  refine ab_aload_n C dX10_goesBy_5 rfl ?_
  refine ab_getI C dX10_goesBy_6 flX10_86 rkM_0 rfl mmM_0 ?_
  refine ab_icmp_ge C (tgt := 56) dX10_goesBy_9 (by decide) (fun hc1 => ?_) (fun hc1 => ?_)
  · replace h := ab_pos hc1 h
    obtain rfl := Option.some.inj h
    exact ab_vret C dX10_goesBy_56
  · replace h := ab_neg hc1 h
    refine ab_aload_n C dX10_goesBy_12 rfl ?_
    refine ab_getR C dX10_goesBy_13 flX10_49 rkM_0 rfl mmM_0 ?_
    refine ab_iconst C dX10_goesBy_16 (v := 5) rfl ?_
    refine ab_iload_n C dX10_goesBy_17 rfl ?_
    refine ab_iconst C dX10_goesBy_18 (v := 1) rfl ?_
    refine ab_iadd C dX10_goesBy_19  ?_
    refine ab_imul C dX10_goesBy_20  ?_
    refine ab_iload C dX10_goesBy_21 rfl ?_
    refine ab_iadd C dX10_goesBy_23  ?_
    refine ab_aload_n C dX10_goesBy_24 rfl ?_
    refine ab_getR C dX10_goesBy_25 flX10_49 rkM_0 rfl mmM_0 ?_
    refine ab_iconst C dX10_goesBy_28 (v := 5) rfl ?_
    refine ab_iload_n C dX10_goesBy_29 rfl ?_
    refine ab_imul C dX10_goesBy_30  ?_
    refine ab_iload C dX10_goesBy_31 rfl ?_
    refine ab_iadd C dX10_goesBy_33  ?_
    obtain ⟨hg2, h⟩ := ab_grd h
    refine ab_lald C dX10_goesBy_34 rkM_13 mmM_13 hg2 ?_
    refine ab_aload_n C dX10_goesBy_35 rfl ?_
    refine ab_iload_n C dX10_goesBy_36 rfl ?_
    refine ab_iload C dX10_goesBy_37 rfl ?_
    refine ab_iload_n C dX10_goesBy_39 rfl ?_
    refine ab_iload C dX10_goesBy_40 rfl ?_
    refine ab_iload_n C dX10_goesBy_42 rfl ?_
    refine ab_iload C dX10_goesBy_43 rfl ?_
    obtain ⟨q3, hq3, h⟩ := ab_bind h
    refine ab_inv1 C dX10_goesBy_45 mlX10_213 yvX10_actIs rkM_0 ⟨_, _, rfl⟩ mmM_0 (tX10_actIs l _ _ _ _ _ _ _ hq3) (Nat.le_of_ble_eq_true rfl) (Nat.le_of_ble_eq_true rfl) rfl (Nat.le_of_ble_eq_true rfl) ?_
    refine ab_lmul C dX10_goesBy_48  ?_
    obtain ⟨hg4, h⟩ := ab_grd h
    refine ab_last C dX10_goesBy_49 rkM_13 mmM_13 hg4 ?_
    refine ab_nmS (fun σ5 eσ5 => ?_)
    replace h := ab_kh eσ5 h
    refine ab_iinc C dX10_goesBy_50 rfl (v := 1) rfl (Nat.le_of_ble_eq_true rfl) ?_
    refine ab_goto C (tgt := 3) dX10_goesBy_53 (by decide) ?_
    refine ab_weak (lv' := [some (.inr (.inr (0, 0))), some (.inl v1), some (.inl v2), some (.inl v3), some (.inl v4), some (.inl v5), some (.inl (v6 + 1))]) ⟨.inr rfl, ⟨.inr rfl, ⟨.inr rfl, ⟨.inr rfl, ⟨.inr rfl, ⟨.inr rfl, ⟨.inr rfl, trivial⟩⟩⟩⟩⟩⟩⟩ ?_
    exact hk3 _ _ _ _ _ _ _ h
theorem gX10_goesBy_b3 {R : ab_S} (C : ab_C yM p s m args meth c D cA ad cX10_goesBy 7 RX10 none) : ∀ (j : Nat) (v1 : Int32) (v2 : Int32) (v3 : Int32) (v4 : Int32) (v5 : Int32) (v6 : Int32) (σ : ab_S), fX10_goesBy_b3 j v1 v2 v3 v4 v5 v6 σ = some R → ab_G yM p l e s m args below meth c D cA ad 7 70 none R 3 [some (.inr (.inr (0, 0))), some (.inl v1), some (.inl v2), some (.inl v3), some (.inl v4), some (.inl v5), some (.inl v6)] [] σ := by
  intro j
  induction j with
  | zero => intro v1 v2 v3 v4 v5 v6 σ  h; cases h
  | succ j ih => intro v1 v2 v3 v4 v5 v6 σ  h; exact gX10_goesBy_b3_o C ih _ _ _ _ _ _ _ h
set_option maxRecDepth 100000 in
set_option maxHeartbeats 4000000 in
theorem tX10_goesBy (l : Launch) (x1 : Int32) (x2 : Int32) (x3 : Int32) (x4 : Int32) (x5 : Int32) (σ : ab_S) {R : ab_S} (h : fX10_goesBy x1 x2 x3 x4 x5 σ = some R) : ab_M l yM yX10_goesBy cX10_goesBy 7 none 70 [.inr (.inr (0, 0)), .inl x1, .inl x2, .inl x3, .inl x4, .inl x5] σ none R := by
  refine ab_M_intro ndM (by decide) (Nat.le_of_ble_eq_true rfl) ?_
  intro p e s m args below meth c D cA ad C
  have C : ab_C yM p s m args meth c D cA ad cX10_goesBy 7 RX10 none := C
  refine ab_weak (lv' := [some (.inr (.inr (0, 0))), some (.inl x1), some (.inl x2), some (.inl x3), some (.inl x4), some (.inl x5), none]) ⟨.inr rfl, ⟨.inr rfl, ⟨.inr rfl, ⟨.inr rfl, ⟨.inr rfl, ⟨.inr rfl, ⟨.inl rfl, trivial⟩⟩⟩⟩⟩⟩⟩ ?_
  refine ab_iconst C dX10_goesBy_0 (v := 0) rfl ?_
  refine ab_istore C dX10_goesBy_1 (Nat.le_of_ble_eq_true rfl) ?_
  refine ab_weak (lv' := [some (.inr (.inr (0, 0))), some (.inl x1), some (.inl x2), some (.inl x3), some (.inl x4), some (.inl x5), some (.inl 0)]) ⟨.inr rfl, ⟨.inr rfl, ⟨.inr rfl, ⟨.inr rfl, ⟨.inr rfl, ⟨.inr rfl, ⟨.inr rfl, trivial⟩⟩⟩⟩⟩⟩⟩ ?_
  exact gX10_goesBy_b3 C ab_N _ _ _ _ _ _ _ h
end
def fX10_bestBy_b52 (rc0 : Int32 → Int32 → Int32 → ab_S → Option (Int64 × ab_S)) (rc1 : Int32 → Int32 → Int32 → Int32 → ab_S → Option (Int64 × ab_S)) (kk6 : Int32 → Int32 → Int32 → Int64 → Int32 → ab_S → Option (Int64 × ab_S)) (v1 : Int32) (v2 : Int32) (v3 : Int32) (v4 : Int64) (v6 : Int32) (σ : ab_S) : Option (Int64 × ab_S) := kk6 v1 v2 v3 v4 (v6 + 1) σ
def fX10_bestBy_b50 (rc0 : Int32 → Int32 → Int32 → ab_S → Option (Int64 × ab_S)) (rc1 : Int32 → Int32 → Int32 → Int32 → ab_S → Option (Int64 × ab_S)) (kk6 : Int32 → Int32 → Int32 → Int64 → Int32 → ab_S → Option (Int64 × ab_S)) (v1 : Int32) (v2 : Int32) (v3 : Int32) (v6 : Int32) (t0 : Int64) (σ : ab_S) : Option (Int64 × ab_S) := fX10_bestBy_b52 rc0 rc1 kk6 v1 v2 v3 t0 v6 σ
def fX10_bestBy_b6_o (rc0 : Int32 → Int32 → Int32 → ab_S → Option (Int64 × ab_S)) (rc1 : Int32 → Int32 → Int32 → Int32 → ab_S → Option (Int64 × ab_S)) (kk6 : Int32 → Int32 → Int32 → Int64 → Int32 → ab_S → Option (Int64 × ab_S)) (v1 : Int32) (v2 : Int32) (v3 : Int32) (v4 : Int64) (v6 : Int32) (σ : ab_S) : Option (Int64 × ab_S) := (if (σ.1 0 0 6) ≤ v6 then some (v4, σ) else (fX10_isIn v3 v6).bind fun q2 => (if q2 = 0 then (rc1 v1 v2 v6 v3 σ).bind fun q4 => (if (lg_cmp q4.1 v4) ≤ 0 then fX10_bestBy_b50 rc0 rc1 kk6 v1 v2 v3 v6 v4 q4.2 else fX10_bestBy_b50 rc0 rc1 kk6 v1 v2 v3 v6 q4.1 q4.2) else fX10_bestBy_b52 rc0 rc1 kk6 v1 v2 v3 v4 v6 σ))
def fX10_bestBy_b6 (rc0 : Int32 → Int32 → Int32 → ab_S → Option (Int64 × ab_S)) (rc1 : Int32 → Int32 → Int32 → Int32 → ab_S → Option (Int64 × ab_S)) : Nat → Int32 → Int32 → Int32 → Int64 → Int32 → ab_S → Option (Int64 × ab_S)
  | 0 => fun _ _ _ _ _ _ => none
  | n + 1 => fX10_bestBy_b6_o rc0 rc1 (fX10_bestBy_b6 rc0 rc1 n)
def fX10_bestBy_o (rc0 : Int32 → Int32 → Int32 → ab_S → Option (Int64 × ab_S)) (rc1 : Int32 → Int32 → Int32 → Int32 → ab_S → Option (Int64 × ab_S)) (x1 : Int32) (x2 : Int32) (x3 : Int32) (σ : ab_S) : Option (Int64 × ab_S) := fX10_bestBy_b6 rc0 rc1 ab_N x1 x2 x3 0 0 σ
def fX10_bestWith_b99 (rc0 : Int32 → Int32 → Int32 → ab_S → Option (Int64 × ab_S)) (rc1 : Int32 → Int32 → Int32 → Int32 → ab_S → Option (Int64 × ab_S)) (kk28 : Int32 → Int32 → Int32 → Int32 → Int64 → Int32 → ab_S → Option (Int64 × ab_S)) (v1 : Int32) (v2 : Int32) (v3 : Int32) (v4 : Int32) (v5 : Int64) (v7 : Int32) (σ : ab_S) : Option (Int64 × ab_S) := kk28 v1 v2 v3 v4 v5 (v7 + 1) σ
def fX10_bestWith_b93 (rc0 : Int32 → Int32 → Int32 → ab_S → Option (Int64 × ab_S)) (rc1 : Int32 → Int32 → Int32 → Int32 → ab_S → Option (Int64 × ab_S)) (kk28 : Int32 → Int32 → Int32 → Int32 → Int64 → Int32 → ab_S → Option (Int64 × ab_S)) (v1 : Int32) (v2 : Int32) (v3 : Int32) (v4 : Int32) (v7 : Int32) (t0 : Int64) (t2 : Int32) (t3 : Int32) (t4 : Int32) (σ : ab_S) : Option (Int64 × ab_S) := (rc0 t2 t3 t4 σ).bind fun q1 => fX10_bestWith_b99 rc0 rc1 kk28 v1 v2 v3 v4 (t0 + q1.1) v7 q1.2
def fX10_bestWith_b58 (rc0 : Int32 → Int32 → Int32 → ab_S → Option (Int64 × ab_S)) (rc1 : Int32 → Int32 → Int32 → Int32 → ab_S → Option (Int64 × ab_S)) (kk28 : Int32 → Int32 → Int32 → Int32 → Int64 → Int32 → ab_S → Option (Int64 × ab_S)) (v1 : Int32) (v2 : Int32) (v3 : Int32) (v4 : Int32) (v5 : Int64) (v7 : Int32) (σ : ab_S) : Option (Int64 × ab_S) := (fX10_goesBy v1 v2 v3 v4 v7 σ).bind fun q1 => (if 0 ≤ v7 then fX10_bestWith_b93 rc0 rc1 kk28 v1 v2 v3 v4 v7 v5 v1 (v2 + 1) (v4 ||| (1 <<< (v7 &&& 31))) q1 else fX10_bestWith_b93 rc0 rc1 kk28 v1 v2 v3 v4 v7 v5 v1 (v2 + 1) v4 q1)
def fX10_bestWith_b28_o (rc0 : Int32 → Int32 → Int32 → ab_S → Option (Int64 × ab_S)) (rc1 : Int32 → Int32 → Int32 → Int32 → ab_S → Option (Int64 × ab_S)) (kk28 : Int32 → Int32 → Int32 → Int32 → Int64 → Int32 → ab_S → Option (Int64 × ab_S)) (v1 : Int32) (v2 : Int32) (v3 : Int32) (v4 : Int32) (v5 : Int64) (v7 : Int32) (σ : ab_S) : Option (Int64 × ab_S) := (if (σ.1 0 0 6) ≤ v7 then some (v5, σ) else (if v7 < 0 then fX10_bestWith_b58 rc0 rc1 kk28 v1 v2 v3 v4 v5 v7 σ else (if v7 = v3 then fX10_bestWith_b99 rc0 rc1 kk28 v1 v2 v3 v4 v5 v7 σ else (fX10_isIn v4 v7).bind fun q4 => (if q4 = 0 then fX10_bestWith_b58 rc0 rc1 kk28 v1 v2 v3 v4 v5 v7 σ else fX10_bestWith_b99 rc0 rc1 kk28 v1 v2 v3 v4 v5 v7 σ))))
def fX10_bestWith_b28 (rc0 : Int32 → Int32 → Int32 → ab_S → Option (Int64 × ab_S)) (rc1 : Int32 → Int32 → Int32 → Int32 → ab_S → Option (Int64 × ab_S)) : Nat → Int32 → Int32 → Int32 → Int32 → Int64 → Int32 → ab_S → Option (Int64 × ab_S)
  | 0 => fun _ _ _ _ _ _ _ => none
  | n + 1 => fX10_bestWith_b28_o rc0 rc1 (fX10_bestWith_b28 rc0 rc1 n)
def fX10_bestWith_o (rc0 : Int32 → Int32 → Int32 → ab_S → Option (Int64 × ab_S)) (rc1 : Int32 → Int32 → Int32 → Int32 → ab_S → Option (Int64 × ab_S)) (x1 : Int32) (x2 : Int32) (x3 : Int32) (x4 : Int32) (σ : ab_S) : Option (Int64 × ab_S) := (if ab_inb 6 7 = true then (if x2 = (σ.1 1 0 ((6 : Int32).toNatClampNeg)) then (if ab_inb ((5 * x2) + x3) 20 = true then some (σ.2 13 0 (((5 * x2) + x3).toNatClampNeg), σ) else none) else fX10_bestWith_b28 rc0 rc1 ab_N x1 x2 x3 x4 0 ((-1)) σ) else none)
def fzX10_bestBy : Nat → (Int32 → Int32 → Int32 → ab_S → Option (Int64 × ab_S)) × (Int32 → Int32 → Int32 → Int32 → ab_S → Option (Int64 × ab_S))
  | 0 => (fun _ _ _ _ => none, fun _ _ _ _ _ => none)
  | n + 1 => (fX10_bestBy_o ((fzX10_bestBy n).1) ((fzX10_bestBy n).2), fX10_bestWith_o ((fzX10_bestBy n).1) ((fzX10_bestBy n).2))
def fX10_bestBy (n : Nat) (x1 : Int32) (x2 : Int32) (x3 : Int32) (σ : ab_S) : Option (Int64 × ab_S) := (fzX10_bestBy n).1 x1 x2 x3 σ
def fX10_bestWith (n : Nat) (x1 : Int32) (x2 : Int32) (x3 : Int32) (x4 : Int32) (σ : ab_S) : Option (Int64 × ab_S) := (fzX10_bestBy n).2 x1 x2 x3 x4 σ
section
variable {p : Program} {l : Launch} {e : Env} {s : State} {m : MethodId} {args : Array Value} {below : List Frame} {meth : Method} {c : Code} {D : va_G} {cA : Nat → ClassId} {ad : Nat → Nat → Nat}
set_option maxRecDepth 100000 in
set_option maxHeartbeats 4000000 in
theorem gX10_bestBy_b52 {n : Nat} {R : (Int64 × ab_S)} {rc0 : Int32 → Int32 → Int32 → ab_S → Option (Int64 × ab_S)} {rc1 : Int32 → Int32 → Int32 → Int32 → ab_S → Option (Int64 × ab_S)} (C : ab_C yM p s m args meth c D cA ad cX10_bestBy 9 RX10 (some .long)) (hrec : (∀ (x1 : Int32) (x2 : Int32) (x3 : Int32) (σ : ab_S), ∀ (R : (Int64 × ab_S)), rc0 x1 x2 x3 σ = some R → ab_M l yM yX10_bestBy cX10_bestBy 9 (some .long) (71 + n) [.inr (.inr (0, 0)), .inl x1, .inl x2, .inl x3] σ (some (.inr (.inl R.1))) R.2) ∧ (∀ (x1 : Int32) (x2 : Int32) (x3 : Int32) (x4 : Int32) (σ : ab_S), ∀ (R : (Int64 × ab_S)), rc1 x1 x2 x3 x4 σ = some R → ab_M l yM yX10_bestWith cX10_bestWith 8 (some .long) (71 + n) [.inr (.inr (0, 0)), .inl x1, .inl x2, .inl x3, .inl x4] σ (some (.inr (.inl R.1))) R.2)) {kk6 : Int32 → Int32 → Int32 → Int64 → Int32 → ab_S → Option (Int64 × ab_S)} (hk6 : ∀ (v1 : Int32) (v2 : Int32) (v3 : Int32) (v4 : Int64) (v6 : Int32) (σ : ab_S), kk6 v1 v2 v3 v4 v6 σ = some R → ab_G yM p l e s m args below meth c D cA ad 9 (71 + n + 1) (some (.inr (.inl R.1))) R.2 6 [some (.inr (.inr (0, 0))), some (.inl v1), some (.inl v2), some (.inl v3), some (.inr (.inl v4)), none, some (.inl v6), none, none] [] σ) (v1 : Int32) (v2 : Int32) (v3 : Int32) (v4 : Int64) (v6 : Int32) (σ : ab_S) (h : fX10_bestBy_b52 rc0 rc1 kk6 v1 v2 v3 v4 v6 σ = some R) : ab_G yM p l e s m args below meth c D cA ad 9 (71 + n + 1) (some (.inr (.inl R.1))) R.2 52 [some (.inr (.inr (0, 0))), some (.inl v1), some (.inl v2), some (.inl v3), some (.inr (.inl v4)), none, some (.inl v6), none, none] [] σ := by
  refine ab_iinc C dX10_bestBy_52 rfl (v := 1) rfl (Nat.le_of_ble_eq_true rfl) ?_
  refine ab_goto C (tgt := 6) dX10_bestBy_55 (by decide) ?_
  refine ab_weak (lv' := [some (.inr (.inr (0, 0))), some (.inl v1), some (.inl v2), some (.inl v3), some (.inr (.inl v4)), none, some (.inl (v6 + 1)), none, none]) ⟨.inr rfl, ⟨.inr rfl, ⟨.inr rfl, ⟨.inr rfl, ⟨.inr rfl, ⟨.inl rfl, ⟨.inr rfl, ⟨.inl rfl, ⟨.inl rfl, trivial⟩⟩⟩⟩⟩⟩⟩⟩⟩ ?_
  exact hk6 _ _ _ _ _ _ h
set_option maxRecDepth 100000 in
set_option maxHeartbeats 4000000 in
theorem gX10_bestBy_b50 {n : Nat} {R : (Int64 × ab_S)} {rc0 : Int32 → Int32 → Int32 → ab_S → Option (Int64 × ab_S)} {rc1 : Int32 → Int32 → Int32 → Int32 → ab_S → Option (Int64 × ab_S)} (C : ab_C yM p s m args meth c D cA ad cX10_bestBy 9 RX10 (some .long)) (hrec : (∀ (x1 : Int32) (x2 : Int32) (x3 : Int32) (σ : ab_S), ∀ (R : (Int64 × ab_S)), rc0 x1 x2 x3 σ = some R → ab_M l yM yX10_bestBy cX10_bestBy 9 (some .long) (71 + n) [.inr (.inr (0, 0)), .inl x1, .inl x2, .inl x3] σ (some (.inr (.inl R.1))) R.2) ∧ (∀ (x1 : Int32) (x2 : Int32) (x3 : Int32) (x4 : Int32) (σ : ab_S), ∀ (R : (Int64 × ab_S)), rc1 x1 x2 x3 x4 σ = some R → ab_M l yM yX10_bestWith cX10_bestWith 8 (some .long) (71 + n) [.inr (.inr (0, 0)), .inl x1, .inl x2, .inl x3, .inl x4] σ (some (.inr (.inl R.1))) R.2)) {kk6 : Int32 → Int32 → Int32 → Int64 → Int32 → ab_S → Option (Int64 × ab_S)} (hk6 : ∀ (v1 : Int32) (v2 : Int32) (v3 : Int32) (v4 : Int64) (v6 : Int32) (σ : ab_S), kk6 v1 v2 v3 v4 v6 σ = some R → ab_G yM p l e s m args below meth c D cA ad 9 (71 + n + 1) (some (.inr (.inl R.1))) R.2 6 [some (.inr (.inr (0, 0))), some (.inl v1), some (.inl v2), some (.inl v3), some (.inr (.inl v4)), none, some (.inl v6), none, none] [] σ) (v1 : Int32) (v2 : Int32) (v3 : Int32) (v6 : Int32) (t0 : Int64) (σ : ab_S) (h : fX10_bestBy_b50 rc0 rc1 kk6 v1 v2 v3 v6 t0 σ = some R) : ab_G yM p l e s m args below meth c D cA ad 9 (71 + n + 1) (some (.inr (.inl R.1))) R.2 50 [some (.inr (.inr (0, 0))), some (.inl v1), some (.inl v2), some (.inl v3), none, none, some (.inl v6), none, none] [.inr (.inl t0)] σ := by
  refine ab_lstore C dX10_bestBy_50 (Nat.le_of_ble_eq_true rfl) ?_
  refine ab_weak (lv' := [some (.inr (.inr (0, 0))), some (.inl v1), some (.inl v2), some (.inl v3), some (.inr (.inl t0)), none, some (.inl v6), none, none]) ⟨.inr rfl, ⟨.inr rfl, ⟨.inr rfl, ⟨.inr rfl, ⟨.inr rfl, ⟨.inl rfl, ⟨.inr rfl, ⟨.inl rfl, ⟨.inl rfl, trivial⟩⟩⟩⟩⟩⟩⟩⟩⟩ ?_
  exact gX10_bestBy_b52 C hrec hk6 _ _ _ _ _ _ h
set_option maxRecDepth 100000 in
set_option maxHeartbeats 4000000 in
theorem gX10_bestBy_b6_o {n : Nat} {R : (Int64 × ab_S)} {rc0 : Int32 → Int32 → Int32 → ab_S → Option (Int64 × ab_S)} {rc1 : Int32 → Int32 → Int32 → Int32 → ab_S → Option (Int64 × ab_S)} (C : ab_C yM p s m args meth c D cA ad cX10_bestBy 9 RX10 (some .long)) (hrec : (∀ (x1 : Int32) (x2 : Int32) (x3 : Int32) (σ : ab_S), ∀ (R : (Int64 × ab_S)), rc0 x1 x2 x3 σ = some R → ab_M l yM yX10_bestBy cX10_bestBy 9 (some .long) (71 + n) [.inr (.inr (0, 0)), .inl x1, .inl x2, .inl x3] σ (some (.inr (.inl R.1))) R.2) ∧ (∀ (x1 : Int32) (x2 : Int32) (x3 : Int32) (x4 : Int32) (σ : ab_S), ∀ (R : (Int64 × ab_S)), rc1 x1 x2 x3 x4 σ = some R → ab_M l yM yX10_bestWith cX10_bestWith 8 (some .long) (71 + n) [.inr (.inr (0, 0)), .inl x1, .inl x2, .inl x3, .inl x4] σ (some (.inr (.inl R.1))) R.2)) {kk6 : Int32 → Int32 → Int32 → Int64 → Int32 → ab_S → Option (Int64 × ab_S)} (hk6 : ∀ (v1 : Int32) (v2 : Int32) (v3 : Int32) (v4 : Int64) (v6 : Int32) (σ : ab_S), kk6 v1 v2 v3 v4 v6 σ = some R → ab_G yM p l e s m args below meth c D cA ad 9 (71 + n + 1) (some (.inr (.inl R.1))) R.2 6 [some (.inr (.inr (0, 0))), some (.inl v1), some (.inl v2), some (.inl v3), some (.inr (.inl v4)), none, some (.inl v6), none, none] [] σ) (v1 : Int32) (v2 : Int32) (v3 : Int32) (v4 : Int64) (v6 : Int32) (σ : ab_S) (h : fX10_bestBy_b6_o rc0 rc1 kk6 v1 v2 v3 v4 v6 σ = some R) : ab_G yM p l e s m args below meth c D cA ad 9 (71 + n + 1) (some (.inr (.inl R.1))) R.2 6 [some (.inr (.inr (0, 0))), some (.inl v1), some (.inl v2), some (.inl v3), some (.inr (.inl v4)), none, some (.inl v6), none, none] [] σ := by
  refine ab_iload C dX10_bestBy_6 rfl ?_
  refine ab_aload_n C dX10_bestBy_8 rfl ?_
  refine ab_getI C dX10_bestBy_9 flX10_86 rkM_0 rfl mmM_0 ?_
  refine ab_icmp_ge C (tgt := 58) dX10_bestBy_12 (by decide) (fun hc1 => ?_) (fun hc1 => ?_)
  · replace h := ab_pos hc1 h
    refine ab_lload C dX10_bestBy_58 rfl ?_
    obtain rfl := Option.some.inj h
    exact ab_lret C dX10_bestBy_60
  · replace h := ab_neg hc1 h
    refine ab_iload_n C dX10_bestBy_15 rfl ?_
    refine ab_iload C dX10_bestBy_16 rfl ?_
    obtain ⟨q2, hq2, h⟩ := ab_bind h
    refine ab_invS1 C dX10_bestBy_18 mlX10_138 ysX10_isIn (tX10_isIn l _ _ _ hq2) (by omega) (Nat.le_of_ble_eq_true rfl) rfl (Nat.le_of_ble_eq_true rfl) ?_
    refine ab_if_ne C (tgt := 52) dX10_bestBy_21 (by decide) (fun hc3 => ?_) (fun hc3 => ?_)
    · replace h := ab_neg hc3 h
      refine ab_weak (lv' := [some (.inr (.inr (0, 0))), some (.inl v1), some (.inl v2), some (.inl v3), some (.inr (.inl v4)), none, some (.inl v6), none, none]) ⟨.inr rfl, ⟨.inr rfl, ⟨.inr rfl, ⟨.inr rfl, ⟨.inr rfl, ⟨.inl rfl, ⟨.inr rfl, ⟨.inl rfl, ⟨.inl rfl, trivial⟩⟩⟩⟩⟩⟩⟩⟩⟩ ?_
      exact gX10_bestBy_b52 C hrec hk6 _ _ _ _ _ _ h
    · replace h := ab_pos hc3 h
      refine ab_aload_n C dX10_bestBy_24 rfl ?_
      refine ab_iload_n C dX10_bestBy_25 rfl ?_
      refine ab_iload_n C dX10_bestBy_26 rfl ?_
      refine ab_iload C dX10_bestBy_27 rfl ?_
      refine ab_iload_n C dX10_bestBy_29 rfl ?_
      obtain ⟨q4, hq4, h⟩ := ab_bind h
      refine ab_inv1 C dX10_bestBy_30 mlX10_251 yvX10_bestWith rkM_0 ⟨_, _, rfl⟩ mmM_0 (hrec.2 _ _ _ _ _ _ hq4) (by omega) (Nat.le_of_ble_eq_true rfl) rfl (Nat.le_of_ble_eq_true rfl) ?_
      refine ab_lstore C dX10_bestBy_33 (Nat.le_of_ble_eq_true rfl) ?_
      refine ab_lload C dX10_bestBy_35 rfl ?_
      refine ab_lload C dX10_bestBy_37 rfl ?_
      refine ab_lcmp C dX10_bestBy_39  ?_
      refine ab_if_le C (tgt := 48) dX10_bestBy_40 (by decide) (fun hc5 => ?_) (fun hc5 => ?_)
      · replace h := ab_pos hc5 h
        refine ab_lload C dX10_bestBy_48 rfl ?_
        refine ab_weak (lv' := [some (.inr (.inr (0, 0))), some (.inl v1), some (.inl v2), some (.inl v3), none, none, some (.inl v6), none, none]) ⟨.inr rfl, ⟨.inr rfl, ⟨.inr rfl, ⟨.inr rfl, ⟨.inl rfl, ⟨.inl rfl, ⟨.inr rfl, ⟨.inl rfl, ⟨.inl rfl, trivial⟩⟩⟩⟩⟩⟩⟩⟩⟩ ?_
        exact gX10_bestBy_b50 C hrec hk6 _ _ _ _ _ _ h
      · replace h := ab_neg hc5 h
        refine ab_lload C dX10_bestBy_43 rfl ?_
        refine ab_goto C (tgt := 50) dX10_bestBy_45 (by decide) ?_
        refine ab_weak (lv' := [some (.inr (.inr (0, 0))), some (.inl v1), some (.inl v2), some (.inl v3), none, none, some (.inl v6), none, none]) ⟨.inr rfl, ⟨.inr rfl, ⟨.inr rfl, ⟨.inr rfl, ⟨.inl rfl, ⟨.inl rfl, ⟨.inr rfl, ⟨.inl rfl, ⟨.inl rfl, trivial⟩⟩⟩⟩⟩⟩⟩⟩⟩ ?_
        exact gX10_bestBy_b50 C hrec hk6 _ _ _ _ _ _ h
theorem gX10_bestBy_b6 {n : Nat} {R : (Int64 × ab_S)} {rc0 : Int32 → Int32 → Int32 → ab_S → Option (Int64 × ab_S)} {rc1 : Int32 → Int32 → Int32 → Int32 → ab_S → Option (Int64 × ab_S)} (C : ab_C yM p s m args meth c D cA ad cX10_bestBy 9 RX10 (some .long)) (hrec : (∀ (x1 : Int32) (x2 : Int32) (x3 : Int32) (σ : ab_S), ∀ (R : (Int64 × ab_S)), rc0 x1 x2 x3 σ = some R → ab_M l yM yX10_bestBy cX10_bestBy 9 (some .long) (71 + n) [.inr (.inr (0, 0)), .inl x1, .inl x2, .inl x3] σ (some (.inr (.inl R.1))) R.2) ∧ (∀ (x1 : Int32) (x2 : Int32) (x3 : Int32) (x4 : Int32) (σ : ab_S), ∀ (R : (Int64 × ab_S)), rc1 x1 x2 x3 x4 σ = some R → ab_M l yM yX10_bestWith cX10_bestWith 8 (some .long) (71 + n) [.inr (.inr (0, 0)), .inl x1, .inl x2, .inl x3, .inl x4] σ (some (.inr (.inl R.1))) R.2)) : ∀ (j : Nat) (v1 : Int32) (v2 : Int32) (v3 : Int32) (v4 : Int64) (v6 : Int32) (σ : ab_S), fX10_bestBy_b6 rc0 rc1 j v1 v2 v3 v4 v6 σ = some R → ab_G yM p l e s m args below meth c D cA ad 9 (71 + n + 1) (some (.inr (.inl R.1))) R.2 6 [some (.inr (.inr (0, 0))), some (.inl v1), some (.inl v2), some (.inl v3), some (.inr (.inl v4)), none, some (.inl v6), none, none] [] σ := by
  intro j
  induction j with
  | zero => intro v1 v2 v3 v4 v6 σ  h; cases h
  | succ j ih => intro v1 v2 v3 v4 v6 σ  h; exact gX10_bestBy_b6_o C hrec ih _ _ _ _ _ _ h
set_option maxRecDepth 100000 in
set_option maxHeartbeats 4000000 in
theorem tX10_bestBy_o (l : Launch) {n : Nat} {rc0 : Int32 → Int32 → Int32 → ab_S → Option (Int64 × ab_S)} {rc1 : Int32 → Int32 → Int32 → Int32 → ab_S → Option (Int64 × ab_S)} (hrec : (∀ (x1 : Int32) (x2 : Int32) (x3 : Int32) (σ : ab_S), ∀ (R : (Int64 × ab_S)), rc0 x1 x2 x3 σ = some R → ab_M l yM yX10_bestBy cX10_bestBy 9 (some .long) (71 + n) [.inr (.inr (0, 0)), .inl x1, .inl x2, .inl x3] σ (some (.inr (.inl R.1))) R.2) ∧ (∀ (x1 : Int32) (x2 : Int32) (x3 : Int32) (x4 : Int32) (σ : ab_S), ∀ (R : (Int64 × ab_S)), rc1 x1 x2 x3 x4 σ = some R → ab_M l yM yX10_bestWith cX10_bestWith 8 (some .long) (71 + n) [.inr (.inr (0, 0)), .inl x1, .inl x2, .inl x3, .inl x4] σ (some (.inr (.inl R.1))) R.2)) (x1 : Int32) (x2 : Int32) (x3 : Int32) (σ : ab_S) {R : (Int64 × ab_S)} (h : fX10_bestBy_o rc0 rc1 x1 x2 x3 σ = some R) : ab_M l yM yX10_bestBy cX10_bestBy 9 (some .long) (71 + n + 1) [.inr (.inr (0, 0)), .inl x1, .inl x2, .inl x3] σ (some (.inr (.inl R.1))) R.2 := by
  refine ab_M_intro ndM (by decide) (Nat.le_of_ble_eq_true rfl) ?_
  intro p e s m args below meth c D cA ad C
  have C : ab_C yM p s m args meth c D cA ad cX10_bestBy 9 RX10 (some .long) := C
  refine ab_weak (lv' := [some (.inr (.inr (0, 0))), some (.inl x1), some (.inl x2), some (.inl x3), none, none, none, none, none]) ⟨.inr rfl, ⟨.inr rfl, ⟨.inr rfl, ⟨.inr rfl, ⟨.inl rfl, ⟨.inl rfl, ⟨.inl rfl, ⟨.inl rfl, ⟨.inl rfl, trivial⟩⟩⟩⟩⟩⟩⟩⟩⟩ ?_
  refine ab_lconst C dX10_bestBy_0 (v := 0) rfl ?_
  refine ab_lstore C dX10_bestBy_1 (Nat.le_of_ble_eq_true rfl) ?_
  refine ab_iconst C dX10_bestBy_3 (v := 0) rfl ?_
  refine ab_istore C dX10_bestBy_4 (Nat.le_of_ble_eq_true rfl) ?_
  refine ab_weak (lv' := [some (.inr (.inr (0, 0))), some (.inl x1), some (.inl x2), some (.inl x3), some (.inr (.inl 0)), none, some (.inl 0), none, none]) ⟨.inr rfl, ⟨.inr rfl, ⟨.inr rfl, ⟨.inr rfl, ⟨.inr rfl, ⟨.inl rfl, ⟨.inr rfl, ⟨.inl rfl, ⟨.inl rfl, trivial⟩⟩⟩⟩⟩⟩⟩⟩⟩ ?_
  exact gX10_bestBy_b6 C hrec ab_N _ _ _ _ _ _ h
end
section
variable {p : Program} {l : Launch} {e : Env} {s : State} {m : MethodId} {args : Array Value} {below : List Frame} {meth : Method} {c : Code} {D : va_G} {cA : Nat → ClassId} {ad : Nat → Nat → Nat}
set_option maxRecDepth 100000 in
set_option maxHeartbeats 4000000 in
theorem gX10_bestWith_b99 {n : Nat} {R : (Int64 × ab_S)} {rc0 : Int32 → Int32 → Int32 → ab_S → Option (Int64 × ab_S)} {rc1 : Int32 → Int32 → Int32 → Int32 → ab_S → Option (Int64 × ab_S)} (C : ab_C yM p s m args meth c D cA ad cX10_bestWith 8 RX10 (some .long)) (hrec : (∀ (x1 : Int32) (x2 : Int32) (x3 : Int32) (σ : ab_S), ∀ (R : (Int64 × ab_S)), rc0 x1 x2 x3 σ = some R → ab_M l yM yX10_bestBy cX10_bestBy 9 (some .long) (71 + n) [.inr (.inr (0, 0)), .inl x1, .inl x2, .inl x3] σ (some (.inr (.inl R.1))) R.2) ∧ (∀ (x1 : Int32) (x2 : Int32) (x3 : Int32) (x4 : Int32) (σ : ab_S), ∀ (R : (Int64 × ab_S)), rc1 x1 x2 x3 x4 σ = some R → ab_M l yM yX10_bestWith cX10_bestWith 8 (some .long) (71 + n) [.inr (.inr (0, 0)), .inl x1, .inl x2, .inl x3, .inl x4] σ (some (.inr (.inl R.1))) R.2)) {kk28 : Int32 → Int32 → Int32 → Int32 → Int64 → Int32 → ab_S → Option (Int64 × ab_S)} (hk28 : ∀ (v1 : Int32) (v2 : Int32) (v3 : Int32) (v4 : Int32) (v5 : Int64) (v7 : Int32) (σ : ab_S), kk28 v1 v2 v3 v4 v5 v7 σ = some R → ab_G yM p l e s m args below meth c D cA ad 8 (71 + n + 1) (some (.inr (.inl R.1))) R.2 28 [some (.inr (.inr (0, 0))), some (.inl v1), some (.inl v2), some (.inl v3), some (.inl v4), some (.inr (.inl v5)), none, some (.inl v7)] [] σ) (v1 : Int32) (v2 : Int32) (v3 : Int32) (v4 : Int32) (v5 : Int64) (v7 : Int32) (σ : ab_S) (h : fX10_bestWith_b99 rc0 rc1 kk28 v1 v2 v3 v4 v5 v7 σ = some R) : ab_G yM p l e s m args below meth c D cA ad 8 (71 + n + 1) (some (.inr (.inl R.1))) R.2 99 [some (.inr (.inr (0, 0))), some (.inl v1), some (.inl v2), some (.inl v3), some (.inl v4), some (.inr (.inl v5)), none, some (.inl v7)] [] σ := by
  refine ab_iinc C dX10_bestWith_99 rfl (v := 1) rfl (Nat.le_of_ble_eq_true rfl) ?_
  refine ab_goto C (tgt := 28) dX10_bestWith_102 (by decide) ?_
  refine ab_weak (lv' := [some (.inr (.inr (0, 0))), some (.inl v1), some (.inl v2), some (.inl v3), some (.inl v4), some (.inr (.inl v5)), none, some (.inl (v7 + 1))]) ⟨.inr rfl, ⟨.inr rfl, ⟨.inr rfl, ⟨.inr rfl, ⟨.inr rfl, ⟨.inr rfl, ⟨.inl rfl, ⟨.inr rfl, trivial⟩⟩⟩⟩⟩⟩⟩⟩ ?_
  exact hk28 _ _ _ _ _ _ _ h
set_option maxRecDepth 100000 in
set_option maxHeartbeats 4000000 in
theorem gX10_bestWith_b93 {n : Nat} {R : (Int64 × ab_S)} {rc0 : Int32 → Int32 → Int32 → ab_S → Option (Int64 × ab_S)} {rc1 : Int32 → Int32 → Int32 → Int32 → ab_S → Option (Int64 × ab_S)} (C : ab_C yM p s m args meth c D cA ad cX10_bestWith 8 RX10 (some .long)) (hrec : (∀ (x1 : Int32) (x2 : Int32) (x3 : Int32) (σ : ab_S), ∀ (R : (Int64 × ab_S)), rc0 x1 x2 x3 σ = some R → ab_M l yM yX10_bestBy cX10_bestBy 9 (some .long) (71 + n) [.inr (.inr (0, 0)), .inl x1, .inl x2, .inl x3] σ (some (.inr (.inl R.1))) R.2) ∧ (∀ (x1 : Int32) (x2 : Int32) (x3 : Int32) (x4 : Int32) (σ : ab_S), ∀ (R : (Int64 × ab_S)), rc1 x1 x2 x3 x4 σ = some R → ab_M l yM yX10_bestWith cX10_bestWith 8 (some .long) (71 + n) [.inr (.inr (0, 0)), .inl x1, .inl x2, .inl x3, .inl x4] σ (some (.inr (.inl R.1))) R.2)) {kk28 : Int32 → Int32 → Int32 → Int32 → Int64 → Int32 → ab_S → Option (Int64 × ab_S)} (hk28 : ∀ (v1 : Int32) (v2 : Int32) (v3 : Int32) (v4 : Int32) (v5 : Int64) (v7 : Int32) (σ : ab_S), kk28 v1 v2 v3 v4 v5 v7 σ = some R → ab_G yM p l e s m args below meth c D cA ad 8 (71 + n + 1) (some (.inr (.inl R.1))) R.2 28 [some (.inr (.inr (0, 0))), some (.inl v1), some (.inl v2), some (.inl v3), some (.inl v4), some (.inr (.inl v5)), none, some (.inl v7)] [] σ) (v1 : Int32) (v2 : Int32) (v3 : Int32) (v4 : Int32) (v7 : Int32) (t0 : Int64) (t2 : Int32) (t3 : Int32) (t4 : Int32) (σ : ab_S) (h : fX10_bestWith_b93 rc0 rc1 kk28 v1 v2 v3 v4 v7 t0 t2 t3 t4 σ = some R) : ab_G yM p l e s m args below meth c D cA ad 8 (71 + n + 1) (some (.inr (.inl R.1))) R.2 93 [some (.inr (.inr (0, 0))), some (.inl v1), some (.inl v2), some (.inl v3), some (.inl v4), none, none, some (.inl v7)] [.inl t4, .inl t3, .inl t2, .inr (.inr (0, 0)), .inr (.inl t0)] σ := by
  obtain ⟨q1, hq1, h⟩ := ab_bind h
  refine ab_inv1 C dX10_bestWith_93 mlX10_255 yvX10_bestBy rkM_0 ⟨_, _, rfl⟩ mmM_0 (hrec.1 _ _ _ _ _ hq1) (by omega) (Nat.le_of_ble_eq_true rfl) rfl (Nat.le_of_ble_eq_true rfl) ?_
  refine ab_ladd C dX10_bestWith_96  ?_
  refine ab_lstore C dX10_bestWith_97 (Nat.le_of_ble_eq_true rfl) ?_
  refine ab_weak (lv' := [some (.inr (.inr (0, 0))), some (.inl v1), some (.inl v2), some (.inl v3), some (.inl v4), some (.inr (.inl (t0 + q1.1))), none, some (.inl v7)]) ⟨.inr rfl, ⟨.inr rfl, ⟨.inr rfl, ⟨.inr rfl, ⟨.inr rfl, ⟨.inr rfl, ⟨.inl rfl, ⟨.inr rfl, trivial⟩⟩⟩⟩⟩⟩⟩⟩ ?_
  exact gX10_bestWith_b99 C hrec hk28 _ _ _ _ _ _ _ h
set_option maxRecDepth 100000 in
set_option maxHeartbeats 4000000 in
theorem gX10_bestWith_b58 {n : Nat} {R : (Int64 × ab_S)} {rc0 : Int32 → Int32 → Int32 → ab_S → Option (Int64 × ab_S)} {rc1 : Int32 → Int32 → Int32 → Int32 → ab_S → Option (Int64 × ab_S)} (C : ab_C yM p s m args meth c D cA ad cX10_bestWith 8 RX10 (some .long)) (hrec : (∀ (x1 : Int32) (x2 : Int32) (x3 : Int32) (σ : ab_S), ∀ (R : (Int64 × ab_S)), rc0 x1 x2 x3 σ = some R → ab_M l yM yX10_bestBy cX10_bestBy 9 (some .long) (71 + n) [.inr (.inr (0, 0)), .inl x1, .inl x2, .inl x3] σ (some (.inr (.inl R.1))) R.2) ∧ (∀ (x1 : Int32) (x2 : Int32) (x3 : Int32) (x4 : Int32) (σ : ab_S), ∀ (R : (Int64 × ab_S)), rc1 x1 x2 x3 x4 σ = some R → ab_M l yM yX10_bestWith cX10_bestWith 8 (some .long) (71 + n) [.inr (.inr (0, 0)), .inl x1, .inl x2, .inl x3, .inl x4] σ (some (.inr (.inl R.1))) R.2)) {kk28 : Int32 → Int32 → Int32 → Int32 → Int64 → Int32 → ab_S → Option (Int64 × ab_S)} (hk28 : ∀ (v1 : Int32) (v2 : Int32) (v3 : Int32) (v4 : Int32) (v5 : Int64) (v7 : Int32) (σ : ab_S), kk28 v1 v2 v3 v4 v5 v7 σ = some R → ab_G yM p l e s m args below meth c D cA ad 8 (71 + n + 1) (some (.inr (.inl R.1))) R.2 28 [some (.inr (.inr (0, 0))), some (.inl v1), some (.inl v2), some (.inl v3), some (.inl v4), some (.inr (.inl v5)), none, some (.inl v7)] [] σ) (v1 : Int32) (v2 : Int32) (v3 : Int32) (v4 : Int32) (v5 : Int64) (v7 : Int32) (σ : ab_S) (h : fX10_bestWith_b58 rc0 rc1 kk28 v1 v2 v3 v4 v5 v7 σ = some R) : ab_G yM p l e s m args below meth c D cA ad 8 (71 + n + 1) (some (.inr (.inl R.1))) R.2 58 [some (.inr (.inr (0, 0))), some (.inl v1), some (.inl v2), some (.inl v3), some (.inl v4), some (.inr (.inl v5)), none, some (.inl v7)] [] σ := by
  refine ab_aload_n C dX10_bestWith_58 rfl ?_
  refine ab_iload_n C dX10_bestWith_59 rfl ?_
  refine ab_iload_n C dX10_bestWith_60 rfl ?_
  refine ab_iload_n C dX10_bestWith_61 rfl ?_
  refine ab_iload C dX10_bestWith_62 rfl ?_
  refine ab_iload C dX10_bestWith_64 rfl ?_
  obtain ⟨q1, hq1, h⟩ := ab_bind h
  refine ab_inv0 C dX10_bestWith_66 mlX10_243 yvX10_goesBy rkM_0 ⟨_, _, rfl⟩ mmM_0 (tX10_goesBy l _ _ _ _ _ _ hq1) (by omega) (Nat.le_of_ble_eq_true rfl) rfl (Nat.le_of_ble_eq_true rfl) ?_
  refine ab_lload C dX10_bestWith_69 rfl ?_
  refine ab_aload_n C dX10_bestWith_71 rfl ?_
  refine ab_iload_n C dX10_bestWith_72 rfl ?_
  refine ab_iload_n C dX10_bestWith_73 rfl ?_
  refine ab_iconst C dX10_bestWith_74 (v := 1) rfl ?_
  refine ab_iadd C dX10_bestWith_75  ?_
  refine ab_iload C dX10_bestWith_76 rfl ?_
  refine ab_if_ge C (tgt := 86) dX10_bestWith_78 (by decide) (fun hc2 => ?_) (fun hc2 => ?_)
  · replace h := ab_pos hc2 h
    refine ab_iload C dX10_bestWith_86 rfl ?_
    refine ab_iconst C dX10_bestWith_88 (v := 1) rfl ?_
    refine ab_iload C dX10_bestWith_89 rfl ?_
    refine ab_ishl C dX10_bestWith_91  ?_
    refine ab_ior C dX10_bestWith_92  ?_
    refine ab_weak (lv' := [some (.inr (.inr (0, 0))), some (.inl v1), some (.inl v2), some (.inl v3), some (.inl v4), none, none, some (.inl v7)]) ⟨.inr rfl, ⟨.inr rfl, ⟨.inr rfl, ⟨.inr rfl, ⟨.inr rfl, ⟨.inl rfl, ⟨.inl rfl, ⟨.inr rfl, trivial⟩⟩⟩⟩⟩⟩⟩⟩ ?_
    exact gX10_bestWith_b93 C hrec hk28 _ _ _ _ _ _ _ _ _ _ h
  · replace h := ab_neg hc2 h
    refine ab_iload C dX10_bestWith_81 rfl ?_
    refine ab_goto C (tgt := 93) dX10_bestWith_83 (by decide) ?_
    refine ab_weak (lv' := [some (.inr (.inr (0, 0))), some (.inl v1), some (.inl v2), some (.inl v3), some (.inl v4), none, none, some (.inl v7)]) ⟨.inr rfl, ⟨.inr rfl, ⟨.inr rfl, ⟨.inr rfl, ⟨.inr rfl, ⟨.inl rfl, ⟨.inl rfl, ⟨.inr rfl, trivial⟩⟩⟩⟩⟩⟩⟩⟩ ?_
    exact gX10_bestWith_b93 C hrec hk28 _ _ _ _ _ _ _ _ _ _ h
set_option maxRecDepth 100000 in
set_option maxHeartbeats 4000000 in
theorem gX10_bestWith_b28_o {n : Nat} {R : (Int64 × ab_S)} {rc0 : Int32 → Int32 → Int32 → ab_S → Option (Int64 × ab_S)} {rc1 : Int32 → Int32 → Int32 → Int32 → ab_S → Option (Int64 × ab_S)} (C : ab_C yM p s m args meth c D cA ad cX10_bestWith 8 RX10 (some .long)) (hrec : (∀ (x1 : Int32) (x2 : Int32) (x3 : Int32) (σ : ab_S), ∀ (R : (Int64 × ab_S)), rc0 x1 x2 x3 σ = some R → ab_M l yM yX10_bestBy cX10_bestBy 9 (some .long) (71 + n) [.inr (.inr (0, 0)), .inl x1, .inl x2, .inl x3] σ (some (.inr (.inl R.1))) R.2) ∧ (∀ (x1 : Int32) (x2 : Int32) (x3 : Int32) (x4 : Int32) (σ : ab_S), ∀ (R : (Int64 × ab_S)), rc1 x1 x2 x3 x4 σ = some R → ab_M l yM yX10_bestWith cX10_bestWith 8 (some .long) (71 + n) [.inr (.inr (0, 0)), .inl x1, .inl x2, .inl x3, .inl x4] σ (some (.inr (.inl R.1))) R.2)) {kk28 : Int32 → Int32 → Int32 → Int32 → Int64 → Int32 → ab_S → Option (Int64 × ab_S)} (hk28 : ∀ (v1 : Int32) (v2 : Int32) (v3 : Int32) (v4 : Int32) (v5 : Int64) (v7 : Int32) (σ : ab_S), kk28 v1 v2 v3 v4 v5 v7 σ = some R → ab_G yM p l e s m args below meth c D cA ad 8 (71 + n + 1) (some (.inr (.inl R.1))) R.2 28 [some (.inr (.inr (0, 0))), some (.inl v1), some (.inl v2), some (.inl v3), some (.inl v4), some (.inr (.inl v5)), none, some (.inl v7)] [] σ) (v1 : Int32) (v2 : Int32) (v3 : Int32) (v4 : Int32) (v5 : Int64) (v7 : Int32) (σ : ab_S) (h : fX10_bestWith_b28_o rc0 rc1 kk28 v1 v2 v3 v4 v5 v7 σ = some R) : ab_G yM p l e s m args below meth c D cA ad 8 (71 + n + 1) (some (.inr (.inl R.1))) R.2 28 [some (.inr (.inr (0, 0))), some (.inl v1), some (.inl v2), some (.inl v3), some (.inl v4), some (.inr (.inl v5)), none, some (.inl v7)] [] σ := by
  refine ab_iload C dX10_bestWith_28 rfl ?_
  refine ab_aload_n C dX10_bestWith_30 rfl ?_
  refine ab_getI C dX10_bestWith_31 flX10_86 rkM_0 rfl mmM_0 ?_
  refine ab_icmp_ge C (tgt := 105) dX10_bestWith_34 (by decide) (fun hc1 => ?_) (fun hc1 => ?_)
  · replace h := ab_pos hc1 h
    refine ab_lload C dX10_bestWith_105 rfl ?_
    obtain rfl := Option.some.inj h
    exact ab_lret C dX10_bestWith_107
  · replace h := ab_neg hc1 h
    refine ab_iload C dX10_bestWith_37 rfl ?_
    refine ab_if_lt C (tgt := 58) dX10_bestWith_39 (by decide) (fun hc2 => ?_) (fun hc2 => ?_)
    · replace h := ab_pos hc2 h
      refine ab_weak (lv' := [some (.inr (.inr (0, 0))), some (.inl v1), some (.inl v2), some (.inl v3), some (.inl v4), some (.inr (.inl v5)), none, some (.inl v7)]) ⟨.inr rfl, ⟨.inr rfl, ⟨.inr rfl, ⟨.inr rfl, ⟨.inr rfl, ⟨.inr rfl, ⟨.inl rfl, ⟨.inr rfl, trivial⟩⟩⟩⟩⟩⟩⟩⟩ ?_
      exact gX10_bestWith_b58 C hrec hk28 _ _ _ _ _ _ _ h
    · replace h := ab_neg hc2 h
      refine ab_iload C dX10_bestWith_42 rfl ?_
      refine ab_iload_n C dX10_bestWith_44 rfl ?_
      refine ab_icmp_eq C (tgt := 99) dX10_bestWith_45 (by decide) (fun hc3 => ?_) (fun hc3 => ?_)
      · replace h := ab_pos hc3 h
        refine ab_weak (lv' := [some (.inr (.inr (0, 0))), some (.inl v1), some (.inl v2), some (.inl v3), some (.inl v4), some (.inr (.inl v5)), none, some (.inl v7)]) ⟨.inr rfl, ⟨.inr rfl, ⟨.inr rfl, ⟨.inr rfl, ⟨.inr rfl, ⟨.inr rfl, ⟨.inl rfl, ⟨.inr rfl, trivial⟩⟩⟩⟩⟩⟩⟩⟩ ?_
        exact gX10_bestWith_b99 C hrec hk28 _ _ _ _ _ _ _ h
      · replace h := ab_neg hc3 h
        refine ab_iload C dX10_bestWith_48 rfl ?_
        refine ab_iload C dX10_bestWith_50 rfl ?_
        obtain ⟨q4, hq4, h⟩ := ab_bind h
        refine ab_invS1 C dX10_bestWith_52 mlX10_138 ysX10_isIn (tX10_isIn l _ _ _ hq4) (by omega) (Nat.le_of_ble_eq_true rfl) rfl (Nat.le_of_ble_eq_true rfl) ?_
        refine ab_if_ne C (tgt := 99) dX10_bestWith_55 (by decide) (fun hc5 => ?_) (fun hc5 => ?_)
        · replace h := ab_neg hc5 h
          refine ab_weak (lv' := [some (.inr (.inr (0, 0))), some (.inl v1), some (.inl v2), some (.inl v3), some (.inl v4), some (.inr (.inl v5)), none, some (.inl v7)]) ⟨.inr rfl, ⟨.inr rfl, ⟨.inr rfl, ⟨.inr rfl, ⟨.inr rfl, ⟨.inr rfl, ⟨.inl rfl, ⟨.inr rfl, trivial⟩⟩⟩⟩⟩⟩⟩⟩ ?_
          exact gX10_bestWith_b99 C hrec hk28 _ _ _ _ _ _ _ h
        · replace h := ab_pos hc5 h
          refine ab_weak (lv' := [some (.inr (.inr (0, 0))), some (.inl v1), some (.inl v2), some (.inl v3), some (.inl v4), some (.inr (.inl v5)), none, some (.inl v7)]) ⟨.inr rfl, ⟨.inr rfl, ⟨.inr rfl, ⟨.inr rfl, ⟨.inr rfl, ⟨.inr rfl, ⟨.inl rfl, ⟨.inr rfl, trivial⟩⟩⟩⟩⟩⟩⟩⟩ ?_
          exact gX10_bestWith_b58 C hrec hk28 _ _ _ _ _ _ _ h
theorem gX10_bestWith_b28 {n : Nat} {R : (Int64 × ab_S)} {rc0 : Int32 → Int32 → Int32 → ab_S → Option (Int64 × ab_S)} {rc1 : Int32 → Int32 → Int32 → Int32 → ab_S → Option (Int64 × ab_S)} (C : ab_C yM p s m args meth c D cA ad cX10_bestWith 8 RX10 (some .long)) (hrec : (∀ (x1 : Int32) (x2 : Int32) (x3 : Int32) (σ : ab_S), ∀ (R : (Int64 × ab_S)), rc0 x1 x2 x3 σ = some R → ab_M l yM yX10_bestBy cX10_bestBy 9 (some .long) (71 + n) [.inr (.inr (0, 0)), .inl x1, .inl x2, .inl x3] σ (some (.inr (.inl R.1))) R.2) ∧ (∀ (x1 : Int32) (x2 : Int32) (x3 : Int32) (x4 : Int32) (σ : ab_S), ∀ (R : (Int64 × ab_S)), rc1 x1 x2 x3 x4 σ = some R → ab_M l yM yX10_bestWith cX10_bestWith 8 (some .long) (71 + n) [.inr (.inr (0, 0)), .inl x1, .inl x2, .inl x3, .inl x4] σ (some (.inr (.inl R.1))) R.2)) : ∀ (j : Nat) (v1 : Int32) (v2 : Int32) (v3 : Int32) (v4 : Int32) (v5 : Int64) (v7 : Int32) (σ : ab_S), fX10_bestWith_b28 rc0 rc1 j v1 v2 v3 v4 v5 v7 σ = some R → ab_G yM p l e s m args below meth c D cA ad 8 (71 + n + 1) (some (.inr (.inl R.1))) R.2 28 [some (.inr (.inr (0, 0))), some (.inl v1), some (.inl v2), some (.inl v3), some (.inl v4), some (.inr (.inl v5)), none, some (.inl v7)] [] σ := by
  intro j
  induction j with
  | zero => intro v1 v2 v3 v4 v5 v7 σ  h; cases h
  | succ j ih => intro v1 v2 v3 v4 v5 v7 σ  h; exact gX10_bestWith_b28_o C hrec ih _ _ _ _ _ _ _ h
set_option maxRecDepth 100000 in
set_option maxHeartbeats 4000000 in
theorem tX10_bestWith_o (l : Launch) {n : Nat} {rc0 : Int32 → Int32 → Int32 → ab_S → Option (Int64 × ab_S)} {rc1 : Int32 → Int32 → Int32 → Int32 → ab_S → Option (Int64 × ab_S)} (hrec : (∀ (x1 : Int32) (x2 : Int32) (x3 : Int32) (σ : ab_S), ∀ (R : (Int64 × ab_S)), rc0 x1 x2 x3 σ = some R → ab_M l yM yX10_bestBy cX10_bestBy 9 (some .long) (71 + n) [.inr (.inr (0, 0)), .inl x1, .inl x2, .inl x3] σ (some (.inr (.inl R.1))) R.2) ∧ (∀ (x1 : Int32) (x2 : Int32) (x3 : Int32) (x4 : Int32) (σ : ab_S), ∀ (R : (Int64 × ab_S)), rc1 x1 x2 x3 x4 σ = some R → ab_M l yM yX10_bestWith cX10_bestWith 8 (some .long) (71 + n) [.inr (.inr (0, 0)), .inl x1, .inl x2, .inl x3, .inl x4] σ (some (.inr (.inl R.1))) R.2)) (x1 : Int32) (x2 : Int32) (x3 : Int32) (x4 : Int32) (σ : ab_S) {R : (Int64 × ab_S)} (h : fX10_bestWith_o rc0 rc1 x1 x2 x3 x4 σ = some R) : ab_M l yM yX10_bestWith cX10_bestWith 8 (some .long) (71 + n + 1) [.inr (.inr (0, 0)), .inl x1, .inl x2, .inl x3, .inl x4] σ (some (.inr (.inl R.1))) R.2 := by
  refine ab_M_intro ndM (by decide) (Nat.le_of_ble_eq_true rfl) ?_
  intro p e s m args below meth c D cA ad C
  have C : ab_C yM p s m args meth c D cA ad cX10_bestWith 8 RX10 (some .long) := C
  refine ab_weak (lv' := [some (.inr (.inr (0, 0))), some (.inl x1), some (.inl x2), some (.inl x3), some (.inl x4), none, none, none]) ⟨.inr rfl, ⟨.inr rfl, ⟨.inr rfl, ⟨.inr rfl, ⟨.inr rfl, ⟨.inl rfl, ⟨.inl rfl, ⟨.inl rfl, trivial⟩⟩⟩⟩⟩⟩⟩⟩ ?_
  refine ab_iload_n C dX10_bestWith_0 rfl ?_
  refine ab_aload_n C dX10_bestWith_1 rfl ?_
  refine ab_getR C dX10_bestWith_2 flX10_11 rkM_0 rfl mmM_0 ?_
  refine ab_bipush C dX10_bestWith_5 (v := 6) rfl ?_
  obtain ⟨hg1, h⟩ := ab_grd h
  refine ab_iald C dX10_bestWith_7 rkM_1 mmM_1 hg1 ?_
  refine ab_icmp_ne C (tgt := 22) dX10_bestWith_8 (by decide) (fun hc2 => ?_) (fun hc2 => ?_)
  · replace h := ab_neg hc2 h
    refine ab_lconst C dX10_bestWith_22 (v := 0) rfl ?_
    refine ab_lstore C dX10_bestWith_23 (Nat.le_of_ble_eq_true rfl) ?_
    refine ab_iconst C dX10_bestWith_25 (v := (-1)) rfl ?_
    refine ab_istore C dX10_bestWith_26 (Nat.le_of_ble_eq_true rfl) ?_
    refine ab_weak (lv' := [some (.inr (.inr (0, 0))), some (.inl x1), some (.inl x2), some (.inl x3), some (.inl x4), some (.inr (.inl 0)), none, some (.inl ((-1)))]) ⟨.inr rfl, ⟨.inr rfl, ⟨.inr rfl, ⟨.inr rfl, ⟨.inr rfl, ⟨.inr rfl, ⟨.inl rfl, ⟨.inr rfl, trivial⟩⟩⟩⟩⟩⟩⟩⟩ ?_
    exact gX10_bestWith_b28 C hrec ab_N _ _ _ _ _ _ _ h
  · replace h := ab_pos hc2 h
    refine ab_aload_n C dX10_bestWith_11 rfl ?_
    refine ab_getR C dX10_bestWith_12 flX10_49 rkM_0 rfl mmM_0 ?_
    refine ab_iconst C dX10_bestWith_15 (v := 5) rfl ?_
    refine ab_iload_n C dX10_bestWith_16 rfl ?_
    refine ab_imul C dX10_bestWith_17  ?_
    refine ab_iload_n C dX10_bestWith_18 rfl ?_
    refine ab_iadd C dX10_bestWith_19  ?_
    obtain ⟨hg3, h⟩ := ab_grd h
    refine ab_lald C dX10_bestWith_20 rkM_13 mmM_13 hg3 ?_
    obtain rfl := Option.some.inj h
    exact ab_lret C dX10_bestWith_21
end
theorem tzX10_bestBy (l : Launch) : ∀ n : Nat, (∀ (x1 : Int32) (x2 : Int32) (x3 : Int32) (σ : ab_S), ∀ (R : (Int64 × ab_S)), fX10_bestBy n x1 x2 x3 σ = some R → ab_M l yM yX10_bestBy cX10_bestBy 9 (some .long) (71 + n) [.inr (.inr (0, 0)), .inl x1, .inl x2, .inl x3] σ (some (.inr (.inl R.1))) R.2) ∧ (∀ (x1 : Int32) (x2 : Int32) (x3 : Int32) (x4 : Int32) (σ : ab_S), ∀ (R : (Int64 × ab_S)), fX10_bestWith n x1 x2 x3 x4 σ = some R → ab_M l yM yX10_bestWith cX10_bestWith 8 (some .long) (71 + n) [.inr (.inr (0, 0)), .inl x1, .inl x2, .inl x3, .inl x4] σ (some (.inr (.inl R.1))) R.2) := by
  intro n
  induction n with
  | zero => exact ⟨fun _ _ _ _ _ h => (by cases h), fun _ _ _ _ _ _ h => (by cases h)⟩
  | succ n ih => exact ⟨fun a0 a1 a2 a3 R h => tX10_bestBy_o l ih a0 a1 a2 a3 h, fun a0 a1 a2 a3 a4 R h => tX10_bestWith_o l ih a0 a1 a2 a3 a4 h⟩
theorem tX10_bestBy (n : Nat) (l : Launch) (x1 : Int32) (x2 : Int32) (x3 : Int32) (σ : ab_S) {R : (Int64 × ab_S)} (h : fX10_bestBy n x1 x2 x3 σ = some R) : ab_M l yM yX10_bestBy cX10_bestBy 9 (some .long) (71 + n) [.inr (.inr (0, 0)), .inl x1, .inl x2, .inl x3] σ (some (.inr (.inl R.1))) R.2 := (tzX10_bestBy l n).1 x1 x2 x3 σ  R h
theorem tX10_bestWith (n : Nat) (l : Launch) (x1 : Int32) (x2 : Int32) (x3 : Int32) (x4 : Int32) (σ : ab_S) {R : (Int64 × ab_S)} (h : fX10_bestWith n x1 x2 x3 x4 σ = some R) : ab_M l yM yX10_bestWith cX10_bestWith 8 (some .long) (71 + n) [.inr (.inr (0, 0)), .inl x1, .inl x2, .inl x3, .inl x4] σ (some (.inr (.inl R.1))) R.2 := (tzX10_bestBy l n).2 x1 x2 x3 x4 σ  R h
def fX10_bestAgainst_b64 (kk11 : Int32 → Int64 → Int32 → ab_S → Option (Int64 × ab_S)) (v1 : Int32) (v4 : Int32) (t0 : Int64) (σ : ab_S) : Option (Int64 × ab_S) := kk11 v1 t0 (v4 + 1) σ
def fX10_bestAgainst_b48 (kk11 : Int32 → Int64 → Int32 → ab_S → Option (Int64 × ab_S)) (v1 : Int32) (v2 : Int64) (v4 : Int32) (v5 : Int64) (t1 : Int32) (σ : ab_S) : Option (Int64 × ab_S) := ab_k (ab_si σ 0 0 25 t1) fun σ1 => (if (lg_cmp v5 v2) ≤ 0 then fX10_bestAgainst_b64 kk11 v1 v4 v2 σ1 else fX10_bestAgainst_b64 kk11 v1 v4 v5 σ1)
def fX10_bestAgainst_b11_o (kk11 : Int32 → Int64 → Int32 → ab_S → Option (Int64 × ab_S)) (v1 : Int32) (v2 : Int64) (v4 : Int32) (σ : ab_S) : Option (Int64 × ab_S) := (if (σ.1 0 0 6) ≤ v4 then some (v2, σ) else ((fX10_bestWith 64) v1 0 v4 0 σ).bind fun q2 => (if (lg_cmp q2.1 v2) ≤ 0 then fX10_bestAgainst_b48 kk11 v1 v2 v4 q2.1 (q2.2.1 0 0 25) q2.2 else fX10_bestAgainst_b48 kk11 v1 v2 v4 q2.1 v4 q2.2))
def fX10_bestAgainst_b11 : Nat → Int32 → Int64 → Int32 → ab_S → Option (Int64 × ab_S)
  | 0 => fun _ _ _ _ => none
  | n + 1 => fX10_bestAgainst_b11_o  (fX10_bestAgainst_b11 n)
def fX10_bestAgainst (x1 : Int32) (σ : ab_S) : Option (Int64 × ab_S) := (fX10_begins1 σ).bind fun q1 => fX10_bestAgainst_b11 ab_N x1 ((-1)) 0 q1
section
variable {p : Program} {l : Launch} {e : Env} {s : State} {m : MethodId} {args : Array Value} {below : List Frame} {meth : Method} {c : Code} {D : va_G} {cA : Nat → ClassId} {ad : Nat → Nat → Nat}
set_option maxRecDepth 100000 in
set_option maxHeartbeats 4000000 in
theorem gX10_bestAgainst_b64 {R : (Int64 × ab_S)} (C : ab_C yM p s m args meth c D cA ad cX10_bestAgainst 7 RX10 (some .long)) {kk11 : Int32 → Int64 → Int32 → ab_S → Option (Int64 × ab_S)} (hk11 : ∀ (v1 : Int32) (v2 : Int64) (v4 : Int32) (σ : ab_S), kk11 v1 v2 v4 σ = some R → ab_G yM p l e s m args below meth c D cA ad 7 136 (some (.inr (.inl R.1))) R.2 11 [some (.inr (.inr (0, 0))), some (.inl v1), some (.inr (.inl v2)), none, some (.inl v4), none, none] [] σ) (v1 : Int32) (v4 : Int32) (t0 : Int64) (σ : ab_S) (h : fX10_bestAgainst_b64 kk11 v1 v4 t0 σ = some R) : ab_G yM p l e s m args below meth c D cA ad 7 136 (some (.inr (.inl R.1))) R.2 64 [some (.inr (.inr (0, 0))), some (.inl v1), none, none, some (.inl v4), none, none] [.inr (.inl t0)] σ := by
  refine ab_lstore_n C dX10_bestAgainst_64 (Nat.le_of_ble_eq_true rfl) ?_
  refine ab_iinc C dX10_bestAgainst_65 rfl (v := 1) rfl (Nat.le_of_ble_eq_true rfl) ?_
  refine ab_goto C (tgt := 11) dX10_bestAgainst_68 (by decide) ?_
  refine ab_weak (lv' := [some (.inr (.inr (0, 0))), some (.inl v1), some (.inr (.inl t0)), none, some (.inl (v4 + 1)), none, none]) ⟨.inr rfl, ⟨.inr rfl, ⟨.inr rfl, ⟨.inl rfl, ⟨.inr rfl, ⟨.inl rfl, ⟨.inl rfl, trivial⟩⟩⟩⟩⟩⟩⟩ ?_
  exact hk11 _ _ _ _ h
set_option maxRecDepth 100000 in
set_option maxHeartbeats 4000000 in
theorem gX10_bestAgainst_b48 {R : (Int64 × ab_S)} (C : ab_C yM p s m args meth c D cA ad cX10_bestAgainst 7 RX10 (some .long)) {kk11 : Int32 → Int64 → Int32 → ab_S → Option (Int64 × ab_S)} (hk11 : ∀ (v1 : Int32) (v2 : Int64) (v4 : Int32) (σ : ab_S), kk11 v1 v2 v4 σ = some R → ab_G yM p l e s m args below meth c D cA ad 7 136 (some (.inr (.inl R.1))) R.2 11 [some (.inr (.inr (0, 0))), some (.inl v1), some (.inr (.inl v2)), none, some (.inl v4), none, none] [] σ) (v1 : Int32) (v2 : Int64) (v4 : Int32) (v5 : Int64) (t1 : Int32) (σ : ab_S) (h : fX10_bestAgainst_b48 kk11 v1 v2 v4 v5 t1 σ = some R) : ab_G yM p l e s m args below meth c D cA ad 7 136 (some (.inr (.inl R.1))) R.2 48 [some (.inr (.inr (0, 0))), some (.inl v1), some (.inr (.inl v2)), none, some (.inl v4), some (.inr (.inl v5)), none] [.inl t1, .inr (.inr (0, 0))] σ := by
  refine ab_putI C dX10_bestAgainst_48 fpX10_273 rkM_0 rfl mmM_0 rfl rfl ?_
  refine ab_nmS (fun σ1 eσ1 => ?_)
  replace h := ab_kh eσ1 h
  refine ab_lload C dX10_bestAgainst_51 rfl ?_
  refine ab_lload_n C dX10_bestAgainst_53 rfl ?_
  refine ab_lcmp C dX10_bestAgainst_54  ?_
  refine ab_if_le C (tgt := 63) dX10_bestAgainst_55 (by decide) (fun hc2 => ?_) (fun hc2 => ?_)
  · replace h := ab_pos hc2 h
    refine ab_lload_n C dX10_bestAgainst_63 rfl ?_
    refine ab_weak (lv' := [some (.inr (.inr (0, 0))), some (.inl v1), none, none, some (.inl v4), none, none]) ⟨.inr rfl, ⟨.inr rfl, ⟨.inl rfl, ⟨.inl rfl, ⟨.inr rfl, ⟨.inl rfl, ⟨.inl rfl, trivial⟩⟩⟩⟩⟩⟩⟩ ?_
    exact gX10_bestAgainst_b64 C hk11 _ _ _ _ h
  · replace h := ab_neg hc2 h
    refine ab_lload C dX10_bestAgainst_58 rfl ?_
    refine ab_goto C (tgt := 64) dX10_bestAgainst_60 (by decide) ?_
    refine ab_weak (lv' := [some (.inr (.inr (0, 0))), some (.inl v1), none, none, some (.inl v4), none, none]) ⟨.inr rfl, ⟨.inr rfl, ⟨.inl rfl, ⟨.inl rfl, ⟨.inr rfl, ⟨.inl rfl, ⟨.inl rfl, trivial⟩⟩⟩⟩⟩⟩⟩ ?_
    exact gX10_bestAgainst_b64 C hk11 _ _ _ _ h
set_option maxRecDepth 100000 in
set_option maxHeartbeats 4000000 in
theorem gX10_bestAgainst_b11_o {R : (Int64 × ab_S)} (C : ab_C yM p s m args meth c D cA ad cX10_bestAgainst 7 RX10 (some .long)) {kk11 : Int32 → Int64 → Int32 → ab_S → Option (Int64 × ab_S)} (hk11 : ∀ (v1 : Int32) (v2 : Int64) (v4 : Int32) (σ : ab_S), kk11 v1 v2 v4 σ = some R → ab_G yM p l e s m args below meth c D cA ad 7 136 (some (.inr (.inl R.1))) R.2 11 [some (.inr (.inr (0, 0))), some (.inl v1), some (.inr (.inl v2)), none, some (.inl v4), none, none] [] σ) (v1 : Int32) (v2 : Int64) (v4 : Int32) (σ : ab_S) (h : fX10_bestAgainst_b11_o kk11 v1 v2 v4 σ = some R) : ab_G yM p l e s m args below meth c D cA ad 7 136 (some (.inr (.inl R.1))) R.2 11 [some (.inr (.inr (0, 0))), some (.inl v1), some (.inr (.inl v2)), none, some (.inl v4), none, none] [] σ := by
  refine ab_iload C dX10_bestAgainst_11 rfl ?_
  refine ab_aload_n C dX10_bestAgainst_13 rfl ?_
  refine ab_getI C dX10_bestAgainst_14 flX10_86 rkM_0 rfl mmM_0 ?_
  refine ab_icmp_ge C (tgt := 71) dX10_bestAgainst_17 (by decide) (fun hc1 => ?_) (fun hc1 => ?_)
  · replace h := ab_pos hc1 h
    refine ab_lload_n C dX10_bestAgainst_71 rfl ?_
    obtain rfl := Option.some.inj h
    exact ab_lret C dX10_bestAgainst_72
  · replace h := ab_neg hc1 h
    refine ab_aload_n C dX10_bestAgainst_20 rfl ?_
    refine ab_iload_n C dX10_bestAgainst_21 rfl ?_
    refine ab_iconst C dX10_bestAgainst_22 (v := 0) rfl ?_
    refine ab_iload C dX10_bestAgainst_23 rfl ?_
    refine ab_iconst C dX10_bestAgainst_25 (v := 0) rfl ?_
    obtain ⟨q2, hq2, h⟩ := ab_bind h
    refine ab_inv1 C dX10_bestAgainst_26 mlX10_251 yvX10_bestWith rkM_0 ⟨_, _, rfl⟩ mmM_0 (tX10_bestWith 64 l _ _ _ _ _ hq2) (Nat.le_of_ble_eq_true rfl) (Nat.le_of_ble_eq_true rfl) rfl (Nat.le_of_ble_eq_true rfl) ?_
    refine ab_lstore C dX10_bestAgainst_29 (Nat.le_of_ble_eq_true rfl) ?_
    refine ab_aload_n C dX10_bestAgainst_31 rfl ?_
    refine ab_lload C dX10_bestAgainst_32 rfl ?_
    refine ab_lload_n C dX10_bestAgainst_34 rfl ?_
    refine ab_lcmp C dX10_bestAgainst_35  ?_
    refine ab_if_le C (tgt := 44) dX10_bestAgainst_36 (by decide) (fun hc3 => ?_) (fun hc3 => ?_)
    · replace h := ab_pos hc3 h
      refine ab_aload_n C dX10_bestAgainst_44 rfl ?_
      refine ab_getI C dX10_bestAgainst_45 flX10_273 rkM_0 rfl mmM_0 ?_
      refine ab_weak (lv' := [some (.inr (.inr (0, 0))), some (.inl v1), some (.inr (.inl v2)), none, some (.inl v4), some (.inr (.inl q2.1)), none]) ⟨.inr rfl, ⟨.inr rfl, ⟨.inr rfl, ⟨.inl rfl, ⟨.inr rfl, ⟨.inr rfl, ⟨.inl rfl, trivial⟩⟩⟩⟩⟩⟩⟩ ?_
      exact gX10_bestAgainst_b48 C hk11 _ _ _ _ _ _ h
    · replace h := ab_neg hc3 h
      refine ab_iload C dX10_bestAgainst_39 rfl ?_
      refine ab_goto C (tgt := 48) dX10_bestAgainst_41 (by decide) ?_
      refine ab_weak (lv' := [some (.inr (.inr (0, 0))), some (.inl v1), some (.inr (.inl v2)), none, some (.inl v4), some (.inr (.inl q2.1)), none]) ⟨.inr rfl, ⟨.inr rfl, ⟨.inr rfl, ⟨.inl rfl, ⟨.inr rfl, ⟨.inr rfl, ⟨.inl rfl, trivial⟩⟩⟩⟩⟩⟩⟩ ?_
      exact gX10_bestAgainst_b48 C hk11 _ _ _ _ _ _ h
theorem gX10_bestAgainst_b11 {R : (Int64 × ab_S)} (C : ab_C yM p s m args meth c D cA ad cX10_bestAgainst 7 RX10 (some .long)) : ∀ (j : Nat) (v1 : Int32) (v2 : Int64) (v4 : Int32) (σ : ab_S), fX10_bestAgainst_b11 j v1 v2 v4 σ = some R → ab_G yM p l e s m args below meth c D cA ad 7 136 (some (.inr (.inl R.1))) R.2 11 [some (.inr (.inr (0, 0))), some (.inl v1), some (.inr (.inl v2)), none, some (.inl v4), none, none] [] σ := by
  intro j
  induction j with
  | zero => intro v1 v2 v4 σ  h; cases h
  | succ j ih => intro v1 v2 v4 σ  h; exact gX10_bestAgainst_b11_o C ih _ _ _ _ h
set_option maxRecDepth 100000 in
set_option maxHeartbeats 4000000 in
theorem tX10_bestAgainst (l : Launch) (x1 : Int32) (σ : ab_S) {R : (Int64 × ab_S)} (h : fX10_bestAgainst x1 σ = some R) : ab_M l yM yX10_bestAgainst cX10_bestAgainst 7 (some .long) 136 [.inr (.inr (0, 0)), .inl x1] σ (some (.inr (.inl R.1))) R.2 := by
  refine ab_M_intro ndM (by decide) (Nat.le_of_ble_eq_true rfl) ?_
  intro p e s m args below meth c D cA ad C
  have C : ab_C yM p s m args meth c D cA ad cX10_bestAgainst 7 RX10 (some .long) := C
  refine ab_weak (lv' := [some (.inr (.inr (0, 0))), some (.inl x1), none, none, none, none, none]) ⟨.inr rfl, ⟨.inr rfl, ⟨.inl rfl, ⟨.inl rfl, ⟨.inl rfl, ⟨.inl rfl, ⟨.inl rfl, trivial⟩⟩⟩⟩⟩⟩⟩ ?_
  refine ab_aload_n C dX10_bestAgainst_0 rfl ?_
  obtain ⟨q1, hq1, h⟩ := ab_bind h
  refine ab_inv0 C dX10_bestAgainst_1 mlX10_262 yvX10_begins1 rkM_0 ⟨_, _, rfl⟩ mmM_0 (tX10_begins1 l _ hq1) (Nat.le_of_ble_eq_true rfl) (Nat.le_of_ble_eq_true rfl) rfl (Nat.le_of_ble_eq_true rfl) ?_
  refine ab_ldc2 C dX10_bestAgainst_4 cwX10_271 ?_
  refine ab_lstore_n C dX10_bestAgainst_7 (Nat.le_of_ble_eq_true rfl) ?_
  refine ab_iconst C dX10_bestAgainst_8 (v := 0) rfl ?_
  refine ab_istore C dX10_bestAgainst_9 (Nat.le_of_ble_eq_true rfl) ?_
  refine ab_weak (lv' := [some (.inr (.inr (0, 0))), some (.inl x1), some (.inr (.inl ((-1)))), none, some (.inl 0), none, none]) ⟨.inr rfl, ⟨.inr rfl, ⟨.inr rfl, ⟨.inl rfl, ⟨.inr rfl, ⟨.inl rfl, ⟨.inl rfl, trivial⟩⟩⟩⟩⟩⟩⟩ ?_
  exact gX10_bestAgainst_b11 C ab_N _ _ _ _ h
end
def fX10_bestCode_b98 (kk4 : Int32 → Int32 → Int32 → ab_S → Option Int32) (v1 : Int32) (v3 : Int32) (t0 : Int32) (t1 : Int32) (σ : ab_S) : Option Int32 := kk4 v1 (t0 + t1) (v3 + 1) σ
def fX10_bestCode_b72 (kk4 : Int32 → Int32 → Int32 → ab_S → Option Int32) (kk18 : Int32 → Int32 → Int32 → Int32 → Int32 → ab_S → Option Int32) (v1 : Int32) (v2 : Int32) (v3 : Int32) (v5 : Int32) (t0 : Int32) (t1 : Int32) (σ : ab_S) : Option Int32 := kk18 v1 v2 v3 (t0 + t1) (v5 + 1) σ
def fX10_bestCode_b67 (kk4 : Int32 → Int32 → Int32 → ab_S → Option Int32) (kk18 : Int32 → Int32 → Int32 → Int32 → Int32 → ab_S → Option Int32) (v1 : Int32) (v2 : Int32) (v3 : Int32) (v5 : Int32) (t0 : Int32) (σ : ab_S) : Option Int32 := fX10_bestCode_b72 kk4 kk18 v1 v2 v3 v5 t0 1 σ
def fX10_bestCode_b71 (kk4 : Int32 → Int32 → Int32 → ab_S → Option Int32) (kk18 : Int32 → Int32 → Int32 → Int32 → Int32 → ab_S → Option Int32) (v1 : Int32) (v2 : Int32) (v3 : Int32) (v5 : Int32) (t0 : Int32) (σ : ab_S) : Option Int32 := fX10_bestCode_b72 kk4 kk18 v1 v2 v3 v5 t0 0 σ
def fX10_bestCode_b18_o (kk4 : Int32 → Int32 → Int32 → ab_S → Option Int32) (kk18 : Int32 → Int32 → Int32 → Int32 → Int32 → ab_S → Option Int32) (v1 : Int32) (v2 : Int32) (v3 : Int32) (v4 : Int32) (v5 : Int32) (σ : ab_S) : Option Int32 := (if (σ.1 0 0 6) ≤ v5 then (if v1 ≤ v4 then fX10_bestCode_b98 kk4 v1 v3 v2 0 σ else (if ab_inb v3 7 = true then fX10_bestCode_b98 kk4 v1 v3 v2 (σ.1 1 0 v3.toNatClampNeg) σ else none)) else (if ab_inb v5 7 = true then (if ab_inb v3 7 = true then (if (σ.1 1 0 v3.toNatClampNeg) < (σ.1 1 0 v5.toNatClampNeg) then fX10_bestCode_b67 kk4 kk18 v1 v2 v3 v5 v4 σ else (if ab_inb v5 7 = true then (if ab_inb v3 7 = true then (if (σ.1 1 0 v5.toNatClampNeg) = (σ.1 1 0 v3.toNatClampNeg) then (if v3 ≤ v5 then fX10_bestCode_b71 kk4 kk18 v1 v2 v3 v5 v4 σ else fX10_bestCode_b67 kk4 kk18 v1 v2 v3 v5 v4 σ) else fX10_bestCode_b71 kk4 kk18 v1 v2 v3 v5 v4 σ) else none) else none)) else none) else none))
def fX10_bestCode_b18 (kk4 : Int32 → Int32 → Int32 → ab_S → Option Int32) : Nat → Int32 → Int32 → Int32 → Int32 → Int32 → ab_S → Option Int32
  | 0 => fun _ _ _ _ _ _ => none
  | n + 1 => fX10_bestCode_b18_o kk4 (fX10_bestCode_b18 kk4 n)
def fX10_bestCode_b4_o (kk4 : Int32 → Int32 → Int32 → ab_S → Option Int32) (v1 : Int32) (v2 : Int32) (v3 : Int32) (σ : ab_S) : Option Int32 := (if (σ.1 0 0 6) ≤ v3 then some v2 else fX10_bestCode_b18 kk4 ab_N v1 v2 v3 0 0 σ)
def fX10_bestCode_b4 : Nat → Int32 → Int32 → Int32 → ab_S → Option Int32
  | 0 => fun _ _ _ _ => none
  | n + 1 => fX10_bestCode_b4_o  (fX10_bestCode_b4 n)
def fX10_bestCode (x1 : Int32) (σ : ab_S) : Option Int32 := fX10_bestCode_b4 ab_N x1 0 0 σ
section
variable {p : Program} {l : Launch} {e : Env} {s : State} {m : MethodId} {args : Array Value} {below : List Frame} {meth : Method} {c : Code} {D : va_G} {cA : Nat → ClassId} {ad : Nat → Nat → Nat}
set_option maxRecDepth 100000 in
set_option maxHeartbeats 4000000 in
theorem gX10_bestCode_b98 {R : Int32} (C : ab_C yM p s m args meth c D cA ad cX10_bestCode 6 RX10 (some .int)) (σ : ab_S) {kk4 : Int32 → Int32 → Int32 → ab_S → Option Int32} (hk4 : ∀ (v1 : Int32) (v2 : Int32) (v3 : Int32), kk4 v1 v2 v3 σ = some R → ab_G yM p l e s m args below meth c D cA ad 6 0 (some (.inl R)) σ 4 [some (.inr (.inr (0, 0))), some (.inl v1), some (.inl v2), some (.inl v3), none, none] [] σ) (v1 : Int32) (v3 : Int32) (t0 : Int32) (t1 : Int32) (h : fX10_bestCode_b98 kk4 v1 v3 t0 t1 σ = some R) : ab_G yM p l e s m args below meth c D cA ad 6 0 (some (.inl R)) σ 98 [some (.inr (.inr (0, 0))), some (.inl v1), none, some (.inl v3), none, none] [.inl t1, .inl t0] σ := by
  refine ab_iadd C dX10_bestCode_98  ?_
  refine ab_istore_n C dX10_bestCode_99 (Nat.le_of_ble_eq_true rfl) ?_
  refine ab_iinc C dX10_bestCode_100 rfl (v := 1) rfl (Nat.le_of_ble_eq_true rfl) ?_
  refine ab_goto C (tgt := 4) dX10_bestCode_103 (by decide) ?_
  refine ab_weak (lv' := [some (.inr (.inr (0, 0))), some (.inl v1), some (.inl (t0 + t1)), some (.inl (v3 + 1)), none, none]) ⟨.inr rfl, ⟨.inr rfl, ⟨.inr rfl, ⟨.inr rfl, ⟨.inl rfl, ⟨.inl rfl, trivial⟩⟩⟩⟩⟩⟩ ?_
  exact hk4 _ _ _ h
set_option maxRecDepth 100000 in
set_option maxHeartbeats 4000000 in
theorem gX10_bestCode_b72 {R : Int32} (C : ab_C yM p s m args meth c D cA ad cX10_bestCode 6 RX10 (some .int)) (σ : ab_S) {kk4 : Int32 → Int32 → Int32 → ab_S → Option Int32} (hk4 : ∀ (v1 : Int32) (v2 : Int32) (v3 : Int32), kk4 v1 v2 v3 σ = some R → ab_G yM p l e s m args below meth c D cA ad 6 0 (some (.inl R)) σ 4 [some (.inr (.inr (0, 0))), some (.inl v1), some (.inl v2), some (.inl v3), none, none] [] σ) {kk18 : Int32 → Int32 → Int32 → Int32 → Int32 → ab_S → Option Int32} (hk18 : ∀ (v1 : Int32) (v2 : Int32) (v3 : Int32) (v4 : Int32) (v5 : Int32), kk18 v1 v2 v3 v4 v5 σ = some R → ab_G yM p l e s m args below meth c D cA ad 6 0 (some (.inl R)) σ 18 [some (.inr (.inr (0, 0))), some (.inl v1), some (.inl v2), some (.inl v3), some (.inl v4), some (.inl v5)] [] σ) (v1 : Int32) (v2 : Int32) (v3 : Int32) (v5 : Int32) (t0 : Int32) (t1 : Int32) (h : fX10_bestCode_b72 kk4 kk18 v1 v2 v3 v5 t0 t1 σ = some R) : ab_G yM p l e s m args below meth c D cA ad 6 0 (some (.inl R)) σ 72 [some (.inr (.inr (0, 0))), some (.inl v1), some (.inl v2), some (.inl v3), none, some (.inl v5)] [.inl t1, .inl t0] σ := by
  refine ab_iadd C dX10_bestCode_72  ?_
  refine ab_istore C dX10_bestCode_73 (Nat.le_of_ble_eq_true rfl) ?_
  refine ab_iinc C dX10_bestCode_75 rfl (v := 1) rfl (Nat.le_of_ble_eq_true rfl) ?_
  refine ab_goto C (tgt := 18) dX10_bestCode_78 (by decide) ?_
  refine ab_weak (lv' := [some (.inr (.inr (0, 0))), some (.inl v1), some (.inl v2), some (.inl v3), some (.inl (t0 + t1)), some (.inl (v5 + 1))]) ⟨.inr rfl, ⟨.inr rfl, ⟨.inr rfl, ⟨.inr rfl, ⟨.inr rfl, ⟨.inr rfl, trivial⟩⟩⟩⟩⟩⟩ ?_
  exact hk18 _ _ _ _ _ h
set_option maxRecDepth 100000 in
set_option maxHeartbeats 4000000 in
theorem gX10_bestCode_b67 {R : Int32} (C : ab_C yM p s m args meth c D cA ad cX10_bestCode 6 RX10 (some .int)) (σ : ab_S) {kk4 : Int32 → Int32 → Int32 → ab_S → Option Int32} (hk4 : ∀ (v1 : Int32) (v2 : Int32) (v3 : Int32), kk4 v1 v2 v3 σ = some R → ab_G yM p l e s m args below meth c D cA ad 6 0 (some (.inl R)) σ 4 [some (.inr (.inr (0, 0))), some (.inl v1), some (.inl v2), some (.inl v3), none, none] [] σ) {kk18 : Int32 → Int32 → Int32 → Int32 → Int32 → ab_S → Option Int32} (hk18 : ∀ (v1 : Int32) (v2 : Int32) (v3 : Int32) (v4 : Int32) (v5 : Int32), kk18 v1 v2 v3 v4 v5 σ = some R → ab_G yM p l e s m args below meth c D cA ad 6 0 (some (.inl R)) σ 18 [some (.inr (.inr (0, 0))), some (.inl v1), some (.inl v2), some (.inl v3), some (.inl v4), some (.inl v5)] [] σ) (v1 : Int32) (v2 : Int32) (v3 : Int32) (v5 : Int32) (t0 : Int32) (h : fX10_bestCode_b67 kk4 kk18 v1 v2 v3 v5 t0 σ = some R) : ab_G yM p l e s m args below meth c D cA ad 6 0 (some (.inl R)) σ 67 [some (.inr (.inr (0, 0))), some (.inl v1), some (.inl v2), some (.inl v3), none, some (.inl v5)] [.inl t0] σ := by
  refine ab_iconst C dX10_bestCode_67 (v := 1) rfl ?_
  refine ab_goto C (tgt := 72) dX10_bestCode_68 (by decide) ?_
  refine ab_weak (lv' := [some (.inr (.inr (0, 0))), some (.inl v1), some (.inl v2), some (.inl v3), none, some (.inl v5)]) ⟨.inr rfl, ⟨.inr rfl, ⟨.inr rfl, ⟨.inr rfl, ⟨.inl rfl, ⟨.inr rfl, trivial⟩⟩⟩⟩⟩⟩ ?_
  exact gX10_bestCode_b72 C _ hk4 hk18 _ _ _ _ _ _ h
set_option maxRecDepth 100000 in
set_option maxHeartbeats 4000000 in
theorem gX10_bestCode_b71 {R : Int32} (C : ab_C yM p s m args meth c D cA ad cX10_bestCode 6 RX10 (some .int)) (σ : ab_S) {kk4 : Int32 → Int32 → Int32 → ab_S → Option Int32} (hk4 : ∀ (v1 : Int32) (v2 : Int32) (v3 : Int32), kk4 v1 v2 v3 σ = some R → ab_G yM p l e s m args below meth c D cA ad 6 0 (some (.inl R)) σ 4 [some (.inr (.inr (0, 0))), some (.inl v1), some (.inl v2), some (.inl v3), none, none] [] σ) {kk18 : Int32 → Int32 → Int32 → Int32 → Int32 → ab_S → Option Int32} (hk18 : ∀ (v1 : Int32) (v2 : Int32) (v3 : Int32) (v4 : Int32) (v5 : Int32), kk18 v1 v2 v3 v4 v5 σ = some R → ab_G yM p l e s m args below meth c D cA ad 6 0 (some (.inl R)) σ 18 [some (.inr (.inr (0, 0))), some (.inl v1), some (.inl v2), some (.inl v3), some (.inl v4), some (.inl v5)] [] σ) (v1 : Int32) (v2 : Int32) (v3 : Int32) (v5 : Int32) (t0 : Int32) (h : fX10_bestCode_b71 kk4 kk18 v1 v2 v3 v5 t0 σ = some R) : ab_G yM p l e s m args below meth c D cA ad 6 0 (some (.inl R)) σ 71 [some (.inr (.inr (0, 0))), some (.inl v1), some (.inl v2), some (.inl v3), none, some (.inl v5)] [.inl t0] σ := by
  refine ab_iconst C dX10_bestCode_71 (v := 0) rfl ?_
  refine ab_weak (lv' := [some (.inr (.inr (0, 0))), some (.inl v1), some (.inl v2), some (.inl v3), none, some (.inl v5)]) ⟨.inr rfl, ⟨.inr rfl, ⟨.inr rfl, ⟨.inr rfl, ⟨.inl rfl, ⟨.inr rfl, trivial⟩⟩⟩⟩⟩⟩ ?_
  exact gX10_bestCode_b72 C _ hk4 hk18 _ _ _ _ _ _ h
set_option maxRecDepth 100000 in
set_option maxHeartbeats 4000000 in
theorem gX10_bestCode_b18_o {R : Int32} (C : ab_C yM p s m args meth c D cA ad cX10_bestCode 6 RX10 (some .int)) (σ : ab_S) {kk4 : Int32 → Int32 → Int32 → ab_S → Option Int32} (hk4 : ∀ (v1 : Int32) (v2 : Int32) (v3 : Int32), kk4 v1 v2 v3 σ = some R → ab_G yM p l e s m args below meth c D cA ad 6 0 (some (.inl R)) σ 4 [some (.inr (.inr (0, 0))), some (.inl v1), some (.inl v2), some (.inl v3), none, none] [] σ) {kk18 : Int32 → Int32 → Int32 → Int32 → Int32 → ab_S → Option Int32} (hk18 : ∀ (v1 : Int32) (v2 : Int32) (v3 : Int32) (v4 : Int32) (v5 : Int32), kk18 v1 v2 v3 v4 v5 σ = some R → ab_G yM p l e s m args below meth c D cA ad 6 0 (some (.inl R)) σ 18 [some (.inr (.inr (0, 0))), some (.inl v1), some (.inl v2), some (.inl v3), some (.inl v4), some (.inl v5)] [] σ) (v1 : Int32) (v2 : Int32) (v3 : Int32) (v4 : Int32) (v5 : Int32) (h : fX10_bestCode_b18_o kk4 kk18 v1 v2 v3 v4 v5 σ = some R) : ab_G yM p l e s m args below meth c D cA ad 6 0 (some (.inl R)) σ 18 [some (.inr (.inr (0, 0))), some (.inl v1), some (.inl v2), some (.inl v3), some (.inl v4), some (.inl v5)] [] σ := by
  refine ab_iload C dX10_bestCode_18 rfl ?_
  refine ab_aload_n C dX10_bestCode_20 rfl ?_
  refine ab_getI C dX10_bestCode_21 flX10_86 rkM_0 rfl mmM_0 ?_
  refine ab_icmp_ge C (tgt := 81) dX10_bestCode_24 (by decide) (fun hc1 => ?_) (fun hc1 => ?_)
  · replace h := ab_pos hc1 h
    refine ab_iload_n C dX10_bestCode_81 rfl ?_
    refine ab_iload C dX10_bestCode_82 rfl ?_
    refine ab_iload_n C dX10_bestCode_84 rfl ?_
    refine ab_icmp_ge C (tgt := 97) dX10_bestCode_85 (by decide) (fun hc2 => ?_) (fun hc2 => ?_)
    · replace h := ab_pos hc2 h
      refine ab_iconst C dX10_bestCode_97 (v := 0) rfl ?_
      refine ab_weak (lv' := [some (.inr (.inr (0, 0))), some (.inl v1), none, some (.inl v3), none, none]) ⟨.inr rfl, ⟨.inr rfl, ⟨.inl rfl, ⟨.inr rfl, ⟨.inl rfl, ⟨.inl rfl, trivial⟩⟩⟩⟩⟩⟩ ?_
      exact gX10_bestCode_b98 C _ hk4 _ _ _ _ h
    · replace h := ab_neg hc2 h
      refine ab_aload_n C dX10_bestCode_88 rfl ?_
      refine ab_getR C dX10_bestCode_89 flX10_11 rkM_0 rfl mmM_0 ?_
      refine ab_iload_n C dX10_bestCode_92 rfl ?_
      obtain ⟨hg3, h⟩ := ab_grd h
      refine ab_iald C dX10_bestCode_93 rkM_1 mmM_1 hg3 ?_
      refine ab_goto C (tgt := 98) dX10_bestCode_94 (by decide) ?_
      refine ab_weak (lv' := [some (.inr (.inr (0, 0))), some (.inl v1), none, some (.inl v3), none, none]) ⟨.inr rfl, ⟨.inr rfl, ⟨.inl rfl, ⟨.inr rfl, ⟨.inl rfl, ⟨.inl rfl, trivial⟩⟩⟩⟩⟩⟩ ?_
      exact gX10_bestCode_b98 C _ hk4 _ _ _ _ h
  · replace h := ab_neg hc1 h
    refine ab_iload C dX10_bestCode_27 rfl ?_
    refine ab_aload_n C dX10_bestCode_29 rfl ?_
    refine ab_getR C dX10_bestCode_30 flX10_11 rkM_0 rfl mmM_0 ?_
    refine ab_iload C dX10_bestCode_33 rfl ?_
    obtain ⟨hg4, h⟩ := ab_grd h
    refine ab_iald C dX10_bestCode_35 rkM_1 mmM_1 hg4 ?_
    refine ab_aload_n C dX10_bestCode_36 rfl ?_
    refine ab_getR C dX10_bestCode_37 flX10_11 rkM_0 rfl mmM_0 ?_
    refine ab_iload_n C dX10_bestCode_40 rfl ?_
    obtain ⟨hg5, h⟩ := ab_grd h
    refine ab_iald C dX10_bestCode_41 rkM_1 mmM_1 hg5 ?_
    refine ab_icmp_gt C (tgt := 67) dX10_bestCode_42 (by decide) (fun hc6 => ?_) (fun hc6 => ?_)
    · replace h := ab_pos hc6 h
      refine ab_weak (lv' := [some (.inr (.inr (0, 0))), some (.inl v1), some (.inl v2), some (.inl v3), none, some (.inl v5)]) ⟨.inr rfl, ⟨.inr rfl, ⟨.inr rfl, ⟨.inr rfl, ⟨.inl rfl, ⟨.inr rfl, trivial⟩⟩⟩⟩⟩⟩ ?_
      exact gX10_bestCode_b67 C _ hk4 hk18 _ _ _ _ _ h
    · replace h := ab_neg hc6 h
      refine ab_aload_n C dX10_bestCode_45 rfl ?_
      refine ab_getR C dX10_bestCode_46 flX10_11 rkM_0 rfl mmM_0 ?_
      refine ab_iload C dX10_bestCode_49 rfl ?_
      obtain ⟨hg7, h⟩ := ab_grd h
      refine ab_iald C dX10_bestCode_51 rkM_1 mmM_1 hg7 ?_
      refine ab_aload_n C dX10_bestCode_52 rfl ?_
      refine ab_getR C dX10_bestCode_53 flX10_11 rkM_0 rfl mmM_0 ?_
      refine ab_iload_n C dX10_bestCode_56 rfl ?_
      obtain ⟨hg8, h⟩ := ab_grd h
      refine ab_iald C dX10_bestCode_57 rkM_1 mmM_1 hg8 ?_
      refine ab_icmp_ne C (tgt := 71) dX10_bestCode_58 (by decide) (fun hc9 => ?_) (fun hc9 => ?_)
      · replace h := ab_neg hc9 h
        refine ab_weak (lv' := [some (.inr (.inr (0, 0))), some (.inl v1), some (.inl v2), some (.inl v3), none, some (.inl v5)]) ⟨.inr rfl, ⟨.inr rfl, ⟨.inr rfl, ⟨.inr rfl, ⟨.inl rfl, ⟨.inr rfl, trivial⟩⟩⟩⟩⟩⟩ ?_
        exact gX10_bestCode_b71 C _ hk4 hk18 _ _ _ _ _ h
      · replace h := ab_pos hc9 h
        refine ab_iload C dX10_bestCode_61 rfl ?_
        refine ab_iload_n C dX10_bestCode_63 rfl ?_
        refine ab_icmp_ge C (tgt := 71) dX10_bestCode_64 (by decide) (fun hc10 => ?_) (fun hc10 => ?_)
        · replace h := ab_pos hc10 h
          refine ab_weak (lv' := [some (.inr (.inr (0, 0))), some (.inl v1), some (.inl v2), some (.inl v3), none, some (.inl v5)]) ⟨.inr rfl, ⟨.inr rfl, ⟨.inr rfl, ⟨.inr rfl, ⟨.inl rfl, ⟨.inr rfl, trivial⟩⟩⟩⟩⟩⟩ ?_
          exact gX10_bestCode_b71 C _ hk4 hk18 _ _ _ _ _ h
        · replace h := ab_neg hc10 h
          refine ab_weak (lv' := [some (.inr (.inr (0, 0))), some (.inl v1), some (.inl v2), some (.inl v3), none, some (.inl v5)]) ⟨.inr rfl, ⟨.inr rfl, ⟨.inr rfl, ⟨.inr rfl, ⟨.inl rfl, ⟨.inr rfl, trivial⟩⟩⟩⟩⟩⟩ ?_
          exact gX10_bestCode_b67 C _ hk4 hk18 _ _ _ _ _ h
theorem gX10_bestCode_b18 {R : Int32} (C : ab_C yM p s m args meth c D cA ad cX10_bestCode 6 RX10 (some .int)) (σ : ab_S) {kk4 : Int32 → Int32 → Int32 → ab_S → Option Int32} (hk4 : ∀ (v1 : Int32) (v2 : Int32) (v3 : Int32), kk4 v1 v2 v3 σ = some R → ab_G yM p l e s m args below meth c D cA ad 6 0 (some (.inl R)) σ 4 [some (.inr (.inr (0, 0))), some (.inl v1), some (.inl v2), some (.inl v3), none, none] [] σ) : ∀ (j : Nat) (v1 : Int32) (v2 : Int32) (v3 : Int32) (v4 : Int32) (v5 : Int32), fX10_bestCode_b18 kk4 j v1 v2 v3 v4 v5 σ = some R → ab_G yM p l e s m args below meth c D cA ad 6 0 (some (.inl R)) σ 18 [some (.inr (.inr (0, 0))), some (.inl v1), some (.inl v2), some (.inl v3), some (.inl v4), some (.inl v5)] [] σ := by
  intro j
  induction j with
  | zero => intro v1 v2 v3 v4 v5  h; cases h
  | succ j ih => intro v1 v2 v3 v4 v5  h; exact gX10_bestCode_b18_o C σ hk4 ih _ _ _ _ _ h
set_option maxRecDepth 100000 in
set_option maxHeartbeats 4000000 in
theorem gX10_bestCode_b4_o {R : Int32} (C : ab_C yM p s m args meth c D cA ad cX10_bestCode 6 RX10 (some .int)) (σ : ab_S) {kk4 : Int32 → Int32 → Int32 → ab_S → Option Int32} (hk4 : ∀ (v1 : Int32) (v2 : Int32) (v3 : Int32), kk4 v1 v2 v3 σ = some R → ab_G yM p l e s m args below meth c D cA ad 6 0 (some (.inl R)) σ 4 [some (.inr (.inr (0, 0))), some (.inl v1), some (.inl v2), some (.inl v3), none, none] [] σ) (v1 : Int32) (v2 : Int32) (v3 : Int32) (h : fX10_bestCode_b4_o kk4 v1 v2 v3 σ = some R) : ab_G yM p l e s m args below meth c D cA ad 6 0 (some (.inl R)) σ 4 [some (.inr (.inr (0, 0))), some (.inl v1), some (.inl v2), some (.inl v3), none, none] [] σ := by
  refine ab_iload_n C dX10_bestCode_4 rfl ?_
  refine ab_aload_n C dX10_bestCode_5 rfl ?_
  refine ab_getI C dX10_bestCode_6 flX10_86 rkM_0 rfl mmM_0 ?_
  refine ab_icmp_ge C (tgt := 106) dX10_bestCode_9 (by decide) (fun hc1 => ?_) (fun hc1 => ?_)
  · replace h := ab_pos hc1 h
    refine ab_iload_n C dX10_bestCode_106 rfl ?_
    obtain rfl := Option.some.inj h
    exact ab_iret C dX10_bestCode_107
  · replace h := ab_neg hc1 h
    refine ab_iconst C dX10_bestCode_12 (v := 0) rfl ?_
    refine ab_istore C dX10_bestCode_13 (Nat.le_of_ble_eq_true rfl) ?_
    refine ab_iconst C dX10_bestCode_15 (v := 0) rfl ?_
    refine ab_istore C dX10_bestCode_16 (Nat.le_of_ble_eq_true rfl) ?_
    refine ab_weak (lv' := [some (.inr (.inr (0, 0))), some (.inl v1), some (.inl v2), some (.inl v3), some (.inl 0), some (.inl 0)]) ⟨.inr rfl, ⟨.inr rfl, ⟨.inr rfl, ⟨.inr rfl, ⟨.inr rfl, ⟨.inr rfl, trivial⟩⟩⟩⟩⟩⟩ ?_
    exact gX10_bestCode_b18 C _ hk4 ab_N _ _ _ _ _ h
theorem gX10_bestCode_b4 {R : Int32} (C : ab_C yM p s m args meth c D cA ad cX10_bestCode 6 RX10 (some .int)) (σ : ab_S) : ∀ (j : Nat) (v1 : Int32) (v2 : Int32) (v3 : Int32), fX10_bestCode_b4 j v1 v2 v3 σ = some R → ab_G yM p l e s m args below meth c D cA ad 6 0 (some (.inl R)) σ 4 [some (.inr (.inr (0, 0))), some (.inl v1), some (.inl v2), some (.inl v3), none, none] [] σ := by
  intro j
  induction j with
  | zero => intro v1 v2 v3  h; cases h
  | succ j ih => intro v1 v2 v3  h; exact gX10_bestCode_b4_o C σ ih _ _ _ h
set_option maxRecDepth 100000 in
set_option maxHeartbeats 4000000 in
theorem tX10_bestCode (l : Launch) (x1 : Int32) (σ : ab_S) {R : Int32} (h : fX10_bestCode x1 σ = some R) : ab_M l yM yX10_bestCode cX10_bestCode 6 (some .int) 0 [.inr (.inr (0, 0)), .inl x1] σ (some (.inl R)) σ := by
  refine ab_M_intro ndM (by decide) (Nat.le_of_ble_eq_true rfl) ?_
  intro p e s m args below meth c D cA ad C
  have C : ab_C yM p s m args meth c D cA ad cX10_bestCode 6 RX10 (some .int) := C
  refine ab_weak (lv' := [some (.inr (.inr (0, 0))), some (.inl x1), none, none, none, none]) ⟨.inr rfl, ⟨.inr rfl, ⟨.inl rfl, ⟨.inl rfl, ⟨.inl rfl, ⟨.inl rfl, trivial⟩⟩⟩⟩⟩⟩ ?_
  refine ab_iconst C dX10_bestCode_0 (v := 0) rfl ?_
  refine ab_istore_n C dX10_bestCode_1 (Nat.le_of_ble_eq_true rfl) ?_
  refine ab_iconst C dX10_bestCode_2 (v := 0) rfl ?_
  refine ab_istore_n C dX10_bestCode_3 (Nat.le_of_ble_eq_true rfl) ?_
  refine ab_weak (lv' := [some (.inr (.inr (0, 0))), some (.inl x1), some (.inl 0), some (.inl 0), none, none]) ⟨.inr rfl, ⟨.inr rfl, ⟨.inr rfl, ⟨.inr rfl, ⟨.inl rfl, ⟨.inl rfl, trivial⟩⟩⟩⟩⟩⟩ ?_
  exact gX10_bestCode_b4 C _ ab_N _ _ _ h
end
def fX10_body (x1 : Int32) (σ : ab_S) : Option (Int32 × ab_S) := (fX10_within ((x1 : Int32).toInt64) 0 7).bind fun q1 => (if q1 = 0 then some ((-1), σ) else (if (σ.1 0 0 35) = 50 then some ((-3), σ) else (if ab_inb (σ.1 0 0 35) 50 = true then ab_k (ab_si σ 18 0 ((σ.1 0 0 35).toNatClampNeg) x1) fun σ5 => ab_k (ab_si σ5 0 0 35 ((σ5.1 0 0 35) + 1)) fun σ6 => some ((σ6.1 0 0 35) - 1, σ6) else none)))
section
variable {p : Program} {l : Launch} {e : Env} {s : State} {m : MethodId} {args : Array Value} {below : List Frame} {meth : Method} {c : Code} {D : va_G} {cA : Nat → ClassId} {ad : Nat → Nat → Nat}
set_option maxRecDepth 100000 in
set_option maxHeartbeats 4000000 in
theorem tX10_body (l : Launch) (x1 : Int32) (σ : ab_S) {R : (Int32 × ab_S)} (h : fX10_body x1 σ = some R) : ab_M l yM yX10_body cX10_body 2 (some .int) 1 [.inr (.inr (0, 0)), .inl x1] σ (some (.inl R.1)) R.2 := by
  refine ab_M_intro ndM (by decide) (Nat.le_of_ble_eq_true rfl) ?_
  intro p e s m args below meth c D cA ad C
  have C : ab_C yM p s m args meth c D cA ad cX10_body 2 RX10 (some .int) := C
  refine ab_weak (lv' := [some (.inr (.inr (0, 0))), some (.inl x1)]) ⟨.inr rfl, ⟨.inr rfl, trivial⟩⟩ ?_
  refine ab_iload_n C dX10_body_0 rfl ?_
  refine ab_i2l C dX10_body_1  ?_
  refine ab_lconst C dX10_body_2 (v := 0) rfl ?_
  refine ab_ldc2 C dX10_body_3 cwX10_344 ?_
  obtain ⟨q1, hq1, h⟩ := ab_bind h
  refine ab_invS1 C dX10_body_6 mlX10_105 ysX10_within (tX10_within l _ _ _ _ hq1) (Nat.le_of_ble_eq_true rfl) (Nat.le_of_ble_eq_true rfl) rfl (Nat.le_of_ble_eq_true rfl) ?_
  refine ab_if_ne C (tgt := 14) dX10_body_9 (by decide) (fun hc2 => ?_) (fun hc2 => ?_)
  · replace h := ab_neg hc2 h
    refine ab_aload_n C dX10_body_14 rfl ?_
    refine ab_getI C dX10_body_15 flX10_341 rkM_0 rfl mmM_0 ?_
    refine ab_bipush C dX10_body_18 (v := 50) rfl ?_
    refine ab_icmp_ne C (tgt := 26) dX10_body_20 (by decide) (fun hc3 => ?_) (fun hc3 => ?_)
    · replace h := ab_neg hc3 h
      refine ab_aload_n C dX10_body_26 rfl ?_
      refine ab_getR C dX10_body_27 flX10_64 rkM_0 rfl mmM_0 ?_
      refine ab_aload_n C dX10_body_30 rfl ?_
      refine ab_getI C dX10_body_31 flX10_341 rkM_0 rfl mmM_0 ?_
      refine ab_iload_n C dX10_body_34 rfl ?_
      obtain ⟨hg4, h⟩ := ab_grd h
      refine ab_iast C dX10_body_35 rkM_18 mmM_18 hg4 ?_
      refine ab_nmS (fun σ5 eσ5 => ?_)
      replace h := ab_kh eσ5 h
      refine ab_aload_n C dX10_body_36 rfl ?_
      refine ab_dup C dX10_body_37 rfl ?_
      refine ab_getI C dX10_body_38 flX10_341 rkM_0 rfl mmM_0 ?_
      refine ab_iconst C dX10_body_41 (v := 1) rfl ?_
      refine ab_iadd C dX10_body_42  ?_
      refine ab_putI C dX10_body_43 fpX10_341 rkM_0 rfl mmM_0 rfl rfl ?_
      refine ab_nmS (fun σ6 eσ6 => ?_)
      replace h := ab_kh eσ6 h
      refine ab_aload_n C dX10_body_46 rfl ?_
      refine ab_getI C dX10_body_47 flX10_341 rkM_0 rfl mmM_0 ?_
      refine ab_iconst C dX10_body_50 (v := 1) rfl ?_
      refine ab_isub C dX10_body_51  ?_
      obtain rfl := Option.some.inj h
      exact ab_iret C dX10_body_52
    · replace h := ab_pos hc3 h
      refine ab_bipush C dX10_body_23 (v := (-3)) rfl ?_
      obtain rfl := Option.some.inj h
      exact ab_iret C dX10_body_25
  · replace h := ab_pos hc2 h
    refine ab_iconst C dX10_body_12 (v := (-1)) rfl ?_
    obtain rfl := Option.some.inj h
    exact ab_iret C dX10_body_13
end
def fX10_byCode_b56 (kk4 : Int32 → Int32 → ab_S → Option Int32) (kk14 : Int32 → Int32 → Int32 → Int32 → ab_S → Option Int32) (v1 : Int32) (v2 : Int32) (v4 : Int32) (t0 : Int32) (σ : ab_S) : Option Int32 := kk14 v1 v2 t0 (v4 + 1) σ
def fX10_byCode_b55 (kk4 : Int32 → Int32 → ab_S → Option Int32) (kk14 : Int32 → Int32 → Int32 → Int32 → ab_S → Option Int32) (v1 : Int32) (v2 : Int32) (v3 : Int32) (v4 : Int32) (σ : ab_S) : Option Int32 := fX10_byCode_b56 kk4 kk14 v1 v2 v4 v3 σ
def fX10_byCode_b14_o (kk4 : Int32 → Int32 → ab_S → Option Int32) (kk14 : Int32 → Int32 → Int32 → Int32 → ab_S → Option Int32) (v1 : Int32) (v2 : Int32) (v3 : Int32) (v4 : Int32) (σ : ab_S) : Option Int32 := (if (σ.1 0 0 6) ≤ v4 then kk4 (v1 + v3) (v2 + 1) σ else (if ab_inb v4 5 = true then (if (σ.1 7 0 v4.toNatClampNeg) = v2 then (if ab_inb v4 7 = true then (if (σ.1 1 0 v4.toNatClampNeg) ≤ v3 then fX10_byCode_b55 kk4 kk14 v1 v2 v3 v4 σ else (if ab_inb v4 7 = true then fX10_byCode_b56 kk4 kk14 v1 v2 v4 (σ.1 1 0 v4.toNatClampNeg) σ else none)) else none) else fX10_byCode_b55 kk4 kk14 v1 v2 v3 v4 σ) else none))
def fX10_byCode_b14 (kk4 : Int32 → Int32 → ab_S → Option Int32) : Nat → Int32 → Int32 → Int32 → Int32 → ab_S → Option Int32
  | 0 => fun _ _ _ _ _ => none
  | n + 1 => fX10_byCode_b14_o kk4 (fX10_byCode_b14 kk4 n)
def fX10_byCode_b4_o (kk4 : Int32 → Int32 → ab_S → Option Int32) (v1 : Int32) (v2 : Int32) (σ : ab_S) : Option Int32 := (if 5 ≤ v2 then some v1 else fX10_byCode_b14 kk4 ab_N v1 v2 0 0 σ)
def fX10_byCode_b4 : Nat → Int32 → Int32 → ab_S → Option Int32
  | 0 => fun _ _ _ => none
  | n + 1 => fX10_byCode_b4_o  (fX10_byCode_b4 n)
def fX10_byCode (σ : ab_S) : Option Int32 := fX10_byCode_b4 ab_N 0 0 σ
section
variable {p : Program} {l : Launch} {e : Env} {s : State} {m : MethodId} {args : Array Value} {below : List Frame} {meth : Method} {c : Code} {D : va_G} {cA : Nat → ClassId} {ad : Nat → Nat → Nat}
set_option maxRecDepth 100000 in
set_option maxHeartbeats 4000000 in
theorem gX10_byCode_b56 {R : Int32} (C : ab_C yM p s m args meth c D cA ad cX10_byCode 5 RX10 (some .int)) (σ : ab_S) {kk4 : Int32 → Int32 → ab_S → Option Int32} (hk4 : ∀ (v1 : Int32) (v2 : Int32), kk4 v1 v2 σ = some R → ab_G yM p l e s m args below meth c D cA ad 5 0 (some (.inl R)) σ 4 [some (.inr (.inr (0, 0))), some (.inl v1), some (.inl v2), none, none] [] σ) {kk14 : Int32 → Int32 → Int32 → Int32 → ab_S → Option Int32} (hk14 : ∀ (v1 : Int32) (v2 : Int32) (v3 : Int32) (v4 : Int32), kk14 v1 v2 v3 v4 σ = some R → ab_G yM p l e s m args below meth c D cA ad 5 0 (some (.inl R)) σ 14 [some (.inr (.inr (0, 0))), some (.inl v1), some (.inl v2), some (.inl v3), some (.inl v4)] [] σ) (v1 : Int32) (v2 : Int32) (v4 : Int32) (t0 : Int32) (h : fX10_byCode_b56 kk4 kk14 v1 v2 v4 t0 σ = some R) : ab_G yM p l e s m args below meth c D cA ad 5 0 (some (.inl R)) σ 56 [some (.inr (.inr (0, 0))), some (.inl v1), some (.inl v2), none, some (.inl v4)] [.inl t0] σ := by
  refine ab_istore_n C dX10_byCode_56 (Nat.le_of_ble_eq_true rfl) ?_
  refine ab_iinc C dX10_byCode_57 rfl (v := 1) rfl (Nat.le_of_ble_eq_true rfl) ?_
  refine ab_goto C (tgt := 14) dX10_byCode_60 (by decide) ?_
  refine ab_weak (lv' := [some (.inr (.inr (0, 0))), some (.inl v1), some (.inl v2), some (.inl t0), some (.inl (v4 + 1))]) ⟨.inr rfl, ⟨.inr rfl, ⟨.inr rfl, ⟨.inr rfl, ⟨.inr rfl, trivial⟩⟩⟩⟩⟩ ?_
  exact hk14 _ _ _ _ h
set_option maxRecDepth 100000 in
set_option maxHeartbeats 4000000 in
theorem gX10_byCode_b55 {R : Int32} (C : ab_C yM p s m args meth c D cA ad cX10_byCode 5 RX10 (some .int)) (σ : ab_S) {kk4 : Int32 → Int32 → ab_S → Option Int32} (hk4 : ∀ (v1 : Int32) (v2 : Int32), kk4 v1 v2 σ = some R → ab_G yM p l e s m args below meth c D cA ad 5 0 (some (.inl R)) σ 4 [some (.inr (.inr (0, 0))), some (.inl v1), some (.inl v2), none, none] [] σ) {kk14 : Int32 → Int32 → Int32 → Int32 → ab_S → Option Int32} (hk14 : ∀ (v1 : Int32) (v2 : Int32) (v3 : Int32) (v4 : Int32), kk14 v1 v2 v3 v4 σ = some R → ab_G yM p l e s m args below meth c D cA ad 5 0 (some (.inl R)) σ 14 [some (.inr (.inr (0, 0))), some (.inl v1), some (.inl v2), some (.inl v3), some (.inl v4)] [] σ) (v1 : Int32) (v2 : Int32) (v3 : Int32) (v4 : Int32) (h : fX10_byCode_b55 kk4 kk14 v1 v2 v3 v4 σ = some R) : ab_G yM p l e s m args below meth c D cA ad 5 0 (some (.inl R)) σ 55 [some (.inr (.inr (0, 0))), some (.inl v1), some (.inl v2), some (.inl v3), some (.inl v4)] [] σ := by
  refine ab_iload_n C dX10_byCode_55 rfl ?_
  refine ab_weak (lv' := [some (.inr (.inr (0, 0))), some (.inl v1), some (.inl v2), none, some (.inl v4)]) ⟨.inr rfl, ⟨.inr rfl, ⟨.inr rfl, ⟨.inl rfl, ⟨.inr rfl, trivial⟩⟩⟩⟩⟩ ?_
  exact gX10_byCode_b56 C _ hk4 hk14 _ _ _ _ h
set_option maxRecDepth 100000 in
set_option maxHeartbeats 4000000 in
theorem gX10_byCode_b14_o {R : Int32} (C : ab_C yM p s m args meth c D cA ad cX10_byCode 5 RX10 (some .int)) (σ : ab_S) {kk4 : Int32 → Int32 → ab_S → Option Int32} (hk4 : ∀ (v1 : Int32) (v2 : Int32), kk4 v1 v2 σ = some R → ab_G yM p l e s m args below meth c D cA ad 5 0 (some (.inl R)) σ 4 [some (.inr (.inr (0, 0))), some (.inl v1), some (.inl v2), none, none] [] σ) {kk14 : Int32 → Int32 → Int32 → Int32 → ab_S → Option Int32} (hk14 : ∀ (v1 : Int32) (v2 : Int32) (v3 : Int32) (v4 : Int32), kk14 v1 v2 v3 v4 σ = some R → ab_G yM p l e s m args below meth c D cA ad 5 0 (some (.inl R)) σ 14 [some (.inr (.inr (0, 0))), some (.inl v1), some (.inl v2), some (.inl v3), some (.inl v4)] [] σ) (v1 : Int32) (v2 : Int32) (v3 : Int32) (v4 : Int32) (h : fX10_byCode_b14_o kk4 kk14 v1 v2 v3 v4 σ = some R) : ab_G yM p l e s m args below meth c D cA ad 5 0 (some (.inl R)) σ 14 [some (.inr (.inr (0, 0))), some (.inl v1), some (.inl v2), some (.inl v3), some (.inl v4)] [] σ := by
  refine ab_iload C dX10_byCode_14 rfl ?_
  refine ab_aload_n C dX10_byCode_16 rfl ?_
  refine ab_getI C dX10_byCode_17 flX10_86 rkM_0 rfl mmM_0 ?_
  refine ab_icmp_ge C (tgt := 63) dX10_byCode_20 (by decide) (fun hc1 => ?_) (fun hc1 => ?_)
  · replace h := ab_pos hc1 h
    refine ab_iload_n C dX10_byCode_63 rfl ?_
    refine ab_iload_n C dX10_byCode_64 rfl ?_
    refine ab_iadd C dX10_byCode_65  ?_
    refine ab_istore_n C dX10_byCode_66 (Nat.le_of_ble_eq_true rfl) ?_
    refine ab_iinc C dX10_byCode_67 rfl (v := 1) rfl (Nat.le_of_ble_eq_true rfl) ?_
    refine ab_goto C (tgt := 4) dX10_byCode_70 (by decide) ?_
    refine ab_weak (lv' := [some (.inr (.inr (0, 0))), some (.inl (v1 + v3)), some (.inl (v2 + 1)), none, none]) ⟨.inr rfl, ⟨.inr rfl, ⟨.inr rfl, ⟨.inl rfl, ⟨.inl rfl, trivial⟩⟩⟩⟩⟩ ?_
    exact hk4 _ _ h
  · replace h := ab_neg hc1 h
    refine ab_aload_n C dX10_byCode_23 rfl ?_
    refine ab_getR C dX10_byCode_24 flX10_30 rkM_0 rfl mmM_0 ?_
    refine ab_iload C dX10_byCode_27 rfl ?_
    obtain ⟨hg2, h⟩ := ab_grd h
    refine ab_iald C dX10_byCode_29 rkM_7 mmM_7 hg2 ?_
    refine ab_iload_n C dX10_byCode_30 rfl ?_
    refine ab_icmp_ne C (tgt := 55) dX10_byCode_31 (by decide) (fun hc3 => ?_) (fun hc3 => ?_)
    · replace h := ab_neg hc3 h
      refine ab_weak (lv' := [some (.inr (.inr (0, 0))), some (.inl v1), some (.inl v2), some (.inl v3), some (.inl v4)]) ⟨.inr rfl, ⟨.inr rfl, ⟨.inr rfl, ⟨.inr rfl, ⟨.inr rfl, trivial⟩⟩⟩⟩⟩ ?_
      exact gX10_byCode_b55 C _ hk4 hk14 _ _ _ _ h
    · replace h := ab_pos hc3 h
      refine ab_aload_n C dX10_byCode_34 rfl ?_
      refine ab_getR C dX10_byCode_35 flX10_11 rkM_0 rfl mmM_0 ?_
      refine ab_iload C dX10_byCode_38 rfl ?_
      obtain ⟨hg4, h⟩ := ab_grd h
      refine ab_iald C dX10_byCode_40 rkM_1 mmM_1 hg4 ?_
      refine ab_iload_n C dX10_byCode_41 rfl ?_
      refine ab_icmp_le C (tgt := 55) dX10_byCode_42 (by decide) (fun hc5 => ?_) (fun hc5 => ?_)
      · replace h := ab_pos hc5 h
        refine ab_weak (lv' := [some (.inr (.inr (0, 0))), some (.inl v1), some (.inl v2), some (.inl v3), some (.inl v4)]) ⟨.inr rfl, ⟨.inr rfl, ⟨.inr rfl, ⟨.inr rfl, ⟨.inr rfl, trivial⟩⟩⟩⟩⟩ ?_
        exact gX10_byCode_b55 C _ hk4 hk14 _ _ _ _ h
      · replace h := ab_neg hc5 h
        refine ab_aload_n C dX10_byCode_45 rfl ?_
        refine ab_getR C dX10_byCode_46 flX10_11 rkM_0 rfl mmM_0 ?_
        refine ab_iload C dX10_byCode_49 rfl ?_
        obtain ⟨hg6, h⟩ := ab_grd h
        refine ab_iald C dX10_byCode_51 rkM_1 mmM_1 hg6 ?_
        refine ab_goto C (tgt := 56) dX10_byCode_52 (by decide) ?_
        refine ab_weak (lv' := [some (.inr (.inr (0, 0))), some (.inl v1), some (.inl v2), none, some (.inl v4)]) ⟨.inr rfl, ⟨.inr rfl, ⟨.inr rfl, ⟨.inl rfl, ⟨.inr rfl, trivial⟩⟩⟩⟩⟩ ?_
        exact gX10_byCode_b56 C _ hk4 hk14 _ _ _ _ h
theorem gX10_byCode_b14 {R : Int32} (C : ab_C yM p s m args meth c D cA ad cX10_byCode 5 RX10 (some .int)) (σ : ab_S) {kk4 : Int32 → Int32 → ab_S → Option Int32} (hk4 : ∀ (v1 : Int32) (v2 : Int32), kk4 v1 v2 σ = some R → ab_G yM p l e s m args below meth c D cA ad 5 0 (some (.inl R)) σ 4 [some (.inr (.inr (0, 0))), some (.inl v1), some (.inl v2), none, none] [] σ) : ∀ (j : Nat) (v1 : Int32) (v2 : Int32) (v3 : Int32) (v4 : Int32), fX10_byCode_b14 kk4 j v1 v2 v3 v4 σ = some R → ab_G yM p l e s m args below meth c D cA ad 5 0 (some (.inl R)) σ 14 [some (.inr (.inr (0, 0))), some (.inl v1), some (.inl v2), some (.inl v3), some (.inl v4)] [] σ := by
  intro j
  induction j with
  | zero => intro v1 v2 v3 v4  h; cases h
  | succ j ih => intro v1 v2 v3 v4  h; exact gX10_byCode_b14_o C σ hk4 ih _ _ _ _ h
set_option maxRecDepth 100000 in
set_option maxHeartbeats 4000000 in
theorem gX10_byCode_b4_o {R : Int32} (C : ab_C yM p s m args meth c D cA ad cX10_byCode 5 RX10 (some .int)) (σ : ab_S) {kk4 : Int32 → Int32 → ab_S → Option Int32} (hk4 : ∀ (v1 : Int32) (v2 : Int32), kk4 v1 v2 σ = some R → ab_G yM p l e s m args below meth c D cA ad 5 0 (some (.inl R)) σ 4 [some (.inr (.inr (0, 0))), some (.inl v1), some (.inl v2), none, none] [] σ) (v1 : Int32) (v2 : Int32) (h : fX10_byCode_b4_o kk4 v1 v2 σ = some R) : ab_G yM p l e s m args below meth c D cA ad 5 0 (some (.inl R)) σ 4 [some (.inr (.inr (0, 0))), some (.inl v1), some (.inl v2), none, none] [] σ := by
  refine ab_iload_n C dX10_byCode_4 rfl ?_
  refine ab_iconst C dX10_byCode_5 (v := 5) rfl ?_
  refine ab_icmp_ge C (tgt := 73) dX10_byCode_6 (by decide) (fun hc1 => ?_) (fun hc1 => ?_)
  · replace h := ab_pos hc1 h
    refine ab_iload_n C dX10_byCode_73 rfl ?_
    obtain rfl := Option.some.inj h
    exact ab_iret C dX10_byCode_74
  · replace h := ab_neg hc1 h
    refine ab_iconst C dX10_byCode_9 (v := 0) rfl ?_
    refine ab_istore_n C dX10_byCode_10 (Nat.le_of_ble_eq_true rfl) ?_
    refine ab_iconst C dX10_byCode_11 (v := 0) rfl ?_
    refine ab_istore C dX10_byCode_12 (Nat.le_of_ble_eq_true rfl) ?_
    refine ab_weak (lv' := [some (.inr (.inr (0, 0))), some (.inl v1), some (.inl v2), some (.inl 0), some (.inl 0)]) ⟨.inr rfl, ⟨.inr rfl, ⟨.inr rfl, ⟨.inr rfl, ⟨.inr rfl, trivial⟩⟩⟩⟩⟩ ?_
    exact gX10_byCode_b14 C _ hk4 ab_N _ _ _ _ h
theorem gX10_byCode_b4 {R : Int32} (C : ab_C yM p s m args meth c D cA ad cX10_byCode 5 RX10 (some .int)) (σ : ab_S) : ∀ (j : Nat) (v1 : Int32) (v2 : Int32), fX10_byCode_b4 j v1 v2 σ = some R → ab_G yM p l e s m args below meth c D cA ad 5 0 (some (.inl R)) σ 4 [some (.inr (.inr (0, 0))), some (.inl v1), some (.inl v2), none, none] [] σ := by
  intro j
  induction j with
  | zero => intro v1 v2  h; cases h
  | succ j ih => intro v1 v2  h; exact gX10_byCode_b4_o C σ ih _ _ h
set_option maxRecDepth 100000 in
set_option maxHeartbeats 4000000 in
theorem tX10_byCode (l : Launch) (σ : ab_S) {R : Int32} (h : fX10_byCode σ = some R) : ab_M l yM yX10_byCode cX10_byCode 5 (some .int) 0 [.inr (.inr (0, 0))] σ (some (.inl R)) σ := by
  refine ab_M_intro ndM (by decide) (Nat.le_of_ble_eq_true rfl) ?_
  intro p e s m args below meth c D cA ad C
  have C : ab_C yM p s m args meth c D cA ad cX10_byCode 5 RX10 (some .int) := C
  refine ab_weak (lv' := [some (.inr (.inr (0, 0))), none, none, none, none]) ⟨.inr rfl, ⟨.inl rfl, ⟨.inl rfl, ⟨.inl rfl, ⟨.inl rfl, trivial⟩⟩⟩⟩⟩ ?_
  refine ab_iconst C dX10_byCode_0 (v := 0) rfl ?_
  refine ab_istore_n C dX10_byCode_1 (Nat.le_of_ble_eq_true rfl) ?_
  refine ab_iconst C dX10_byCode_2 (v := 0) rfl ?_
  refine ab_istore_n C dX10_byCode_3 (Nat.le_of_ble_eq_true rfl) ?_
  refine ab_weak (lv' := [some (.inr (.inr (0, 0))), some (.inl 0), some (.inl 0), none, none]) ⟨.inr rfl, ⟨.inr rfl, ⟨.inr rfl, ⟨.inl rfl, ⟨.inl rfl, trivial⟩⟩⟩⟩⟩ ?_
  exact gX10_byCode_b4 C _ ab_N _ _ h
end
def fX10_choose (x1 : Int32) (σ : ab_S) : Option (Int32 × ab_S) := (fX10_isDoor ((x1 : Int32).toInt64) σ).bind fun q1 => (if q1 = 0 then some ((-1), σ) else (fX10_openNow σ).bind fun q3 => (fX10_isIn q3 x1).bind fun q4 => (if q4 = 0 then ab_k (ab_si σ 0 0 8 x1) fun σ6 => some (σ.1 0 0 8, σ6) else some ((-5), σ)))
section
variable {p : Program} {l : Launch} {e : Env} {s : State} {m : MethodId} {args : Array Value} {below : List Frame} {meth : Method} {c : Code} {D : va_G} {cA : Nat → ClassId} {ad : Nat → Nat → Nat}
set_option maxRecDepth 100000 in
set_option maxHeartbeats 4000000 in
theorem tX10_choose (l : Launch) (x1 : Int32) (σ : ab_S) {R : (Int32 × ab_S)} (h : fX10_choose x1 σ = some R) : ab_M l yM yX10_choose cX10_choose 3 (some .int) 2 [.inr (.inr (0, 0)), .inl x1] σ (some (.inl R.1)) R.2 := by
  refine ab_M_intro ndM (by decide) (Nat.le_of_ble_eq_true rfl) ?_
  intro p e s m args below meth c D cA ad C
  have C : ab_C yM p s m args meth c D cA ad cX10_choose 3 RX10 (some .int) := C
  refine ab_weak (lv' := [some (.inr (.inr (0, 0))), some (.inl x1), none]) ⟨.inr rfl, ⟨.inr rfl, ⟨.inl rfl, trivial⟩⟩⟩ ?_
  refine ab_aload_n C dX10_choose_0 rfl ?_
  refine ab_iload_n C dX10_choose_1 rfl ?_
  refine ab_i2l C dX10_choose_2  ?_
  obtain ⟨q1, hq1, h⟩ := ab_bind h
  refine ab_inv1 C dX10_choose_3 mlX10_117 yvX10_isDoor rkM_0 ⟨_, _, rfl⟩ mmM_0 (tX10_isDoor l _ _ hq1) (Nat.le_of_ble_eq_true rfl) (Nat.le_of_ble_eq_true rfl) rfl (Nat.le_of_ble_eq_true rfl) ?_
  refine ab_if_ne C (tgt := 11) dX10_choose_6 (by decide) (fun hc2 => ?_) (fun hc2 => ?_)
  · replace h := ab_neg hc2 h
    refine ab_aload_n C dX10_choose_11 rfl ?_
    obtain ⟨q3, hq3, h⟩ := ab_bind h
    refine ab_inv1 C dX10_choose_12 mlX10_134 yvX10_openNow rkM_0 ⟨_, _, rfl⟩ mmM_0 (tX10_openNow l _ hq3) (Nat.le_of_ble_eq_true rfl) (Nat.le_of_ble_eq_true rfl) rfl (Nat.le_of_ble_eq_true rfl) ?_
    refine ab_iload_n C dX10_choose_15 rfl ?_
    obtain ⟨q4, hq4, h⟩ := ab_bind h
    refine ab_invS1 C dX10_choose_16 mlX10_138 ysX10_isIn (tX10_isIn l _ _ _ hq4) (Nat.le_of_ble_eq_true rfl) (Nat.le_of_ble_eq_true rfl) rfl (Nat.le_of_ble_eq_true rfl) ?_
    refine ab_if_eq C (tgt := 25) dX10_choose_19 (by decide) (fun hc5 => ?_) (fun hc5 => ?_)
    · replace h := ab_pos hc5 h
      refine ab_aload_n C dX10_choose_25 rfl ?_
      refine ab_getI C dX10_choose_26 flX10_90 rkM_0 rfl mmM_0 ?_
      refine ab_istore_n C dX10_choose_29 (Nat.le_of_ble_eq_true rfl) ?_
      refine ab_aload_n C dX10_choose_30 rfl ?_
      refine ab_iload_n C dX10_choose_31 rfl ?_
      refine ab_putI C dX10_choose_32 fpX10_90 rkM_0 rfl mmM_0 rfl rfl ?_
      refine ab_nmS (fun σ6 eσ6 => ?_)
      replace h := ab_kh eσ6 h
      refine ab_iload_n C dX10_choose_35 rfl ?_
      obtain rfl := Option.some.inj h
      exact ab_iret C dX10_choose_36
    · replace h := ab_neg hc5 h
      refine ab_bipush C dX10_choose_22 (v := (-5)) rfl ?_
      obtain rfl := Option.some.inj h
      exact ab_iret C dX10_choose_24
  · replace h := ab_pos hc2 h
    refine ab_iconst C dX10_choose_9 (v := (-1)) rfl ?_
    obtain rfl := Option.some.inj h
    exact ab_iret C dX10_choose_10
end
def fX10_code_b21 (σ : ab_S) : Option (Int32 × ab_S) := some ((-1), σ)
def fX10_code (x1 : Int32) (x2 : Int32) (σ : ab_S) : Option (Int32 × ab_S) := (fX10_isDoor ((x1 : Int32).toInt64) σ).bind fun q1 => (if q1 = 0 then fX10_code_b21 σ else (fX10_within ((x2 : Int32).toInt64) 0 4).bind fun q3 => (if q3 = 0 then fX10_code_b21 σ else (if ab_inb x1 5 = true then (if ab_inb x1 5 = true then ab_k (ab_si σ 7 0 x1.toNatClampNeg x2) fun σ7 => some (σ.1 7 0 x1.toNatClampNeg, σ7) else none) else none)))
section
variable {p : Program} {l : Launch} {e : Env} {s : State} {m : MethodId} {args : Array Value} {below : List Frame} {meth : Method} {c : Code} {D : va_G} {cA : Nat → ClassId} {ad : Nat → Nat → Nat}
set_option maxRecDepth 100000 in
set_option maxHeartbeats 4000000 in
theorem gX10_code_b21 {R : (Int32 × ab_S)} (C : ab_C yM p s m args meth c D cA ad cX10_code 4 RX10 (some .int)) (σ : ab_S) (h : fX10_code_b21 σ = some R) : ab_G yM p l e s m args below meth c D cA ad 4 2 (some (.inl R.1)) R.2 21 [none, none, none, none] [] σ := by
  refine ab_iconst C dX10_code_21 (v := (-1)) rfl ?_
  obtain rfl := Option.some.inj h
  exact ab_iret C dX10_code_22
set_option maxRecDepth 100000 in
set_option maxHeartbeats 4000000 in
theorem tX10_code (l : Launch) (x1 : Int32) (x2 : Int32) (σ : ab_S) {R : (Int32 × ab_S)} (h : fX10_code x1 x2 σ = some R) : ab_M l yM yX10_code cX10_code 4 (some .int) 2 [.inr (.inr (0, 0)), .inl x1, .inl x2] σ (some (.inl R.1)) R.2 := by
  refine ab_M_intro ndM (by decide) (Nat.le_of_ble_eq_true rfl) ?_
  intro p e s m args below meth c D cA ad C
  have C : ab_C yM p s m args meth c D cA ad cX10_code 4 RX10 (some .int) := C
  refine ab_weak (lv' := [some (.inr (.inr (0, 0))), some (.inl x1), some (.inl x2), none]) ⟨.inr rfl, ⟨.inr rfl, ⟨.inr rfl, ⟨.inl rfl, trivial⟩⟩⟩⟩ ?_
  refine ab_aload_n C dX10_code_0 rfl ?_
  refine ab_iload_n C dX10_code_1 rfl ?_
  refine ab_i2l C dX10_code_2  ?_
  obtain ⟨q1, hq1, h⟩ := ab_bind h
  refine ab_inv1 C dX10_code_3 mlX10_117 yvX10_isDoor rkM_0 ⟨_, _, rfl⟩ mmM_0 (tX10_isDoor l _ _ hq1) (Nat.le_of_ble_eq_true rfl) (Nat.le_of_ble_eq_true rfl) rfl (Nat.le_of_ble_eq_true rfl) ?_
  refine ab_if_eq C (tgt := 21) dX10_code_6 (by decide) (fun hc2 => ?_) (fun hc2 => ?_)
  · replace h := ab_pos hc2 h
    refine ab_weak (lv' := [none, none, none, none]) ⟨.inl rfl, ⟨.inl rfl, ⟨.inl rfl, ⟨.inl rfl, trivial⟩⟩⟩⟩ ?_
    exact gX10_code_b21 C _ h
  · replace h := ab_neg hc2 h
    refine ab_iload_n C dX10_code_9 rfl ?_
    refine ab_i2l C dX10_code_10  ?_
    refine ab_lconst C dX10_code_11 (v := 0) rfl ?_
    refine ab_ldc2 C dX10_code_12 cwX10_320 ?_
    obtain ⟨q3, hq3, h⟩ := ab_bind h
    refine ab_invS1 C dX10_code_15 mlX10_105 ysX10_within (tX10_within l _ _ _ _ hq3) (Nat.le_of_ble_eq_true rfl) (Nat.le_of_ble_eq_true rfl) rfl (Nat.le_of_ble_eq_true rfl) ?_
    refine ab_if_ne C (tgt := 23) dX10_code_18 (by decide) (fun hc4 => ?_) (fun hc4 => ?_)
    · replace h := ab_neg hc4 h
      refine ab_aload_n C dX10_code_23 rfl ?_
      refine ab_getR C dX10_code_24 flX10_30 rkM_0 rfl mmM_0 ?_
      refine ab_iload_n C dX10_code_27 rfl ?_
      obtain ⟨hg5, h⟩ := ab_grd h
      refine ab_iald C dX10_code_28 rkM_7 mmM_7 hg5 ?_
      refine ab_istore_n C dX10_code_29 (Nat.le_of_ble_eq_true rfl) ?_
      refine ab_aload_n C dX10_code_30 rfl ?_
      refine ab_getR C dX10_code_31 flX10_30 rkM_0 rfl mmM_0 ?_
      refine ab_iload_n C dX10_code_34 rfl ?_
      refine ab_iload_n C dX10_code_35 rfl ?_
      obtain ⟨hg6, h⟩ := ab_grd h
      refine ab_iast C dX10_code_36 rkM_7 mmM_7 hg6 ?_
      refine ab_nmS (fun σ7 eσ7 => ?_)
      replace h := ab_kh eσ7 h
      refine ab_iload_n C dX10_code_37 rfl ?_
      obtain rfl := Option.some.inj h
      exact ab_iret C dX10_code_38
    · replace h := ab_pos hc4 h
      refine ab_weak (lv' := [none, none, none, none]) ⟨.inl rfl, ⟨.inl rfl, ⟨.inl rfl, ⟨.inl rfl, trivial⟩⟩⟩⟩ ?_
      exact gX10_code_b21 C _ h
end
def fX10_commonOf_b6_o (kk6 : Int64 → Int64 → Option Int64) (v4 : Int64) (v6 : Int64) : Option Int64 := (if (lg_cmp v6 0) = 0 then some v4 else (if v6 = 0 then none else kk6 v6 (ab_lmod v4 v6)))
def fX10_commonOf_b6 : Nat → Int64 → Int64 → Option Int64
  | 0 => fun _ _ => none
  | n + 1 => fX10_commonOf_b6_o  (fX10_commonOf_b6 n)
def fX10_commonOf (x0 : Int64) (x2 : Int64) : Option Int64 := fX10_commonOf_b6 ab_N x0 x2
section
variable {p : Program} {l : Launch} {e : Env} {s : State} {m : MethodId} {args : Array Value} {below : List Frame} {meth : Method} {c : Code} {D : va_G} {cA : Nat → ClassId} {ad : Nat → Nat → Nat}
set_option maxRecDepth 100000 in
set_option maxHeartbeats 4000000 in
theorem gX10_commonOf_b6_o {R : Int64} (C : ab_C yM p s m args meth c D cA ad cX10_commonOf 10 RX10 (some .long)) {σ : ab_S} {kk6 : Int64 → Int64 → Option Int64} (hk6 : ∀ (v4 : Int64) (v6 : Int64), kk6 v4 v6 = some R → ab_G yM p l e s m args below meth c D cA ad 10 0 (some (.inr (.inl R))) σ 6 [none, none, none, none, some (.inr (.inl v4)), none, some (.inr (.inl v6)), none, none, none] [] σ) (v4 : Int64) (v6 : Int64) (h : fX10_commonOf_b6_o kk6 v4 v6 = some R) : ab_G yM p l e s m args below meth c D cA ad 10 0 (some (.inr (.inl R))) σ 6 [none, none, none, none, some (.inr (.inl v4)), none, some (.inr (.inl v6)), none, none, none] [] σ := by
  refine ab_lload C dX10_commonOf_6 rfl ?_
  refine ab_lconst C dX10_commonOf_8 (v := 0) rfl ?_
  refine ab_lcmp C dX10_commonOf_9  ?_
  refine ab_if_eq C (tgt := 31) dX10_commonOf_10 (by decide) (fun hc1 => ?_) (fun hc1 => ?_)
  · replace h := ab_pos hc1 h
    refine ab_lload C dX10_commonOf_31 rfl ?_
    obtain rfl := Option.some.inj h
    exact ab_lret C dX10_commonOf_33
  · replace h := ab_neg hc1 h
    refine ab_lload C dX10_commonOf_13 rfl ?_
    refine ab_lload C dX10_commonOf_15 rfl ?_
    obtain ⟨hg2, h⟩ := ab_grn h
    refine ab_lrem C dX10_commonOf_17 hg2 ?_
    refine ab_lstore C dX10_commonOf_18 (Nat.le_of_ble_eq_true rfl) ?_
    refine ab_lload C dX10_commonOf_20 rfl ?_
    refine ab_lstore C dX10_commonOf_22 (Nat.le_of_ble_eq_true rfl) ?_
    refine ab_lload C dX10_commonOf_24 rfl ?_
    refine ab_lstore C dX10_commonOf_26 (Nat.le_of_ble_eq_true rfl) ?_
    refine ab_weak (lv' := [none, none, none, none, some (.inr (.inl v6)), none, some (.inr (.inl (ab_lmod v4 v6))), none, some (.inr (.inl (ab_lmod v4 v6))), none]) ⟨.inl rfl, ⟨.inl rfl, ⟨.inl rfl, ⟨.inl rfl, ⟨.inr rfl, ⟨.inl rfl, ⟨.inr rfl, ⟨.inl rfl, ⟨.inr rfl, ⟨.inl rfl, trivial⟩⟩⟩⟩⟩⟩⟩⟩⟩⟩ ?_
    refine ab_goto C (tgt := 6) dX10_commonOf_28 (by decide) ?_
    refine ab_weak (lv' := [none, none, none, none, some (.inr (.inl v6)), none, some (.inr (.inl (ab_lmod v4 v6))), none, none, none]) ⟨.inl rfl, ⟨.inl rfl, ⟨.inl rfl, ⟨.inl rfl, ⟨.inr rfl, ⟨.inl rfl, ⟨.inr rfl, ⟨.inl rfl, ⟨.inl rfl, ⟨.inl rfl, trivial⟩⟩⟩⟩⟩⟩⟩⟩⟩⟩ ?_
    exact hk6 _ _ h
theorem gX10_commonOf_b6 {R : Int64} (C : ab_C yM p s m args meth c D cA ad cX10_commonOf 10 RX10 (some .long)) {σ : ab_S} : ∀ (j : Nat) (v4 : Int64) (v6 : Int64), fX10_commonOf_b6 j v4 v6 = some R → ab_G yM p l e s m args below meth c D cA ad 10 0 (some (.inr (.inl R))) σ 6 [none, none, none, none, some (.inr (.inl v4)), none, some (.inr (.inl v6)), none, none, none] [] σ := by
  intro j
  induction j with
  | zero => intro v4 v6  h; cases h
  | succ j ih => intro v4 v6  h; exact gX10_commonOf_b6_o C ih _ _ h
set_option maxRecDepth 100000 in
set_option maxHeartbeats 4000000 in
theorem tX10_commonOf (l : Launch) (x0 : Int64) (x2 : Int64) (σ : ab_S) {R : Int64} (h : fX10_commonOf x0 x2 = some R) : ab_M l yM yX10_commonOf cX10_commonOf 10 (some .long) 0 [.inr (.inl x0), .inr (.inl x2)] σ (some (.inr (.inl R))) σ := by
  refine ab_M_intro ndM (by decide) (Nat.le_of_ble_eq_true rfl) ?_
  intro p e s m args below meth c D cA ad C
  have C : ab_C yM p s m args meth c D cA ad cX10_commonOf 10 RX10 (some .long) := C
  refine ab_weak (lv' := [some (.inr (.inl x0)), none, some (.inr (.inl x2)), none, none, none, none, none, none, none]) ⟨.inr rfl, ⟨.inl rfl, ⟨.inr rfl, ⟨.inl rfl, ⟨.inl rfl, ⟨.inl rfl, ⟨.inl rfl, ⟨.inl rfl, ⟨.inl rfl, ⟨.inl rfl, trivial⟩⟩⟩⟩⟩⟩⟩⟩⟩⟩ ?_
  refine ab_lload_n C dX10_commonOf_0 rfl ?_
  refine ab_lstore C dX10_commonOf_1 (Nat.le_of_ble_eq_true rfl) ?_
  refine ab_lload_n C dX10_commonOf_3 rfl ?_
  refine ab_lstore C dX10_commonOf_4 (Nat.le_of_ble_eq_true rfl) ?_
  refine ab_weak (lv' := [none, none, none, none, some (.inr (.inl x0)), none, some (.inr (.inl x2)), none, none, none]) ⟨.inl rfl, ⟨.inl rfl, ⟨.inl rfl, ⟨.inl rfl, ⟨.inr rfl, ⟨.inl rfl, ⟨.inr rfl, ⟨.inl rfl, ⟨.inl rfl, ⟨.inl rfl, trivial⟩⟩⟩⟩⟩⟩⟩⟩⟩⟩ ?_
  exact gX10_commonOf_b6 C ab_N _ _ h
end
def fX10_count (x1 : Int32) (σ : ab_S) : Option Int32 := (if x1 = 0 then some (σ.1 0 0 6) else (if x1 = 1 then (fX10_openNow σ).bind fun q3 => (fX10_bitsOf q3).bind fun q4 => some q4 else (if x1 = 2 then some (σ.1 0 0 9) else (if x1 = 3 then some (σ.1 0 0 14) else (if x1 = 4 then some (σ.1 0 0 5) else (if x1 = 5 then some (σ.1 0 0 35) else (if x1 = 6 then some (σ.1 0 0 38) else some ((-1)))))))))
section
variable {p : Program} {l : Launch} {e : Env} {s : State} {m : MethodId} {args : Array Value} {below : List Frame} {meth : Method} {c : Code} {D : va_G} {cA : Nat → ClassId} {ad : Nat → Nat → Nat}
set_option maxRecDepth 100000 in
set_option maxHeartbeats 4000000 in
theorem tX10_count (l : Launch) (x1 : Int32) (σ : ab_S) {R : Int32} (h : fX10_count x1 σ = some R) : ab_M l yM yX10_count cX10_count 2 (some .int) 2 [.inr (.inr (0, 0)), .inl x1] σ (some (.inl R)) σ := by
  refine ab_M_intro ndM (by decide) (Nat.le_of_ble_eq_true rfl) ?_
  intro p e s m args below meth c D cA ad C
  have C : ab_C yM p s m args meth c D cA ad cX10_count 2 RX10 (some .int) := C
  refine ab_weak (lv' := [some (.inr (.inr (0, 0))), some (.inl x1)]) ⟨.inr rfl, ⟨.inr rfl, trivial⟩⟩ ?_
  refine ab_iload_n C dX10_count_0 rfl ?_
  by_cases hc1 : x1 = 0
  · replace h := ab_pos hc1 h
    refine ab_tswIn C (tgt := 44) dX10_count_1.1 0 (by rw [hc1]; decide) (by decide) (by decide) rfl (by decide) ?_
    refine ab_aload_n C dX10_count_44 rfl ?_
    refine ab_getI C dX10_count_45 flX10_86 rkM_0 rfl mmM_0 ?_
    obtain rfl := Option.some.inj h
    exact ab_iret C dX10_count_48
  · replace h := ab_neg hc1 h
    by_cases hc2 : x1 = 1
    · replace h := ab_pos hc2 h
      refine ab_tswIn C (tgt := 49) dX10_count_1.1 1 (by rw [hc2]; decide) (by decide) (by decide) rfl (by decide) ?_
      refine ab_aload_n C dX10_count_49 rfl ?_
      obtain ⟨q3, hq3, h⟩ := ab_bind h
      refine ab_inv1 C dX10_count_50 mlX10_134 yvX10_openNow rkM_0 ⟨_, _, rfl⟩ mmM_0 (tX10_openNow l _ hq3) (Nat.le_of_ble_eq_true rfl) (Nat.le_of_ble_eq_true rfl) rfl (Nat.le_of_ble_eq_true rfl) ?_
      obtain ⟨q4, hq4, h⟩ := ab_bind h
      refine ab_invS1 C dX10_count_53 mlX10_202 ysX10_bitsOf (tX10_bitsOf l _ _ hq4) (Nat.le_of_ble_eq_true rfl) (Nat.le_of_ble_eq_true rfl) rfl (Nat.le_of_ble_eq_true rfl) ?_
      obtain rfl := Option.some.inj h
      exact ab_iret C dX10_count_56
    · replace h := ab_neg hc2 h
      by_cases hc5 : x1 = 2
      · replace h := ab_pos hc5 h
        refine ab_tswIn C (tgt := 57) dX10_count_1.1 2 (by rw [hc5]; decide) (by decide) (by decide) rfl (by decide) ?_
        refine ab_aload_n C dX10_count_57 rfl ?_
        refine ab_getI C dX10_count_58 flX10_93 rkM_0 rfl mmM_0 ?_
        obtain rfl := Option.some.inj h
        exact ab_iret C dX10_count_61
      · replace h := ab_neg hc5 h
        by_cases hc6 : x1 = 3
        · replace h := ab_pos hc6 h
          refine ab_tswIn C (tgt := 62) dX10_count_1.1 3 (by rw [hc6]; decide) (by decide) (by decide) rfl (by decide) ?_
          refine ab_aload_n C dX10_count_62 rfl ?_
          refine ab_getI C dX10_count_63 flX10_151 rkM_0 rfl mmM_0 ?_
          obtain rfl := Option.some.inj h
          exact ab_iret C dX10_count_66
        · replace h := ab_neg hc6 h
          by_cases hc7 : x1 = 4
          · replace h := ab_pos hc7 h
            refine ab_tswIn C (tgt := 67) dX10_count_1.1 4 (by rw [hc7]; decide) (by decide) (by decide) rfl (by decide) ?_
            refine ab_aload_n C dX10_count_67 rfl ?_
            refine ab_getI C dX10_count_68 flX10_96 rkM_0 rfl mmM_0 ?_
            obtain rfl := Option.some.inj h
            exact ab_iret C dX10_count_71
          · replace h := ab_neg hc7 h
            by_cases hc8 : x1 = 5
            · replace h := ab_pos hc8 h
              refine ab_tswIn C (tgt := 72) dX10_count_1.1 5 (by rw [hc8]; decide) (by decide) (by decide) rfl (by decide) ?_
              refine ab_aload_n C dX10_count_72 rfl ?_
              refine ab_getI C dX10_count_73 flX10_341 rkM_0 rfl mmM_0 ?_
              obtain rfl := Option.some.inj h
              exact ab_iret C dX10_count_76
            · replace h := ab_neg hc8 h
              by_cases hc9 : x1 = 6
              · replace h := ab_pos hc9 h
                refine ab_tswIn C (tgt := 77) dX10_count_1.1 6 (by rw [hc9]; decide) (by decide) (by decide) rfl (by decide) ?_
                refine ab_aload_n C dX10_count_77 rfl ?_
                refine ab_getI C dX10_count_78 flX10_346 rkM_0 rfl mmM_0 ?_
                obtain rfl := Option.some.inj h
                exact ab_iret C dX10_count_81
              · replace h := ab_neg hc9 h
                refine ab_tswOut C (tgt := 82) dX10_count_1.1 (by have a0 := lv_neT hc1 (a := 0) (by decide); have a1 := lv_neT hc2 (a := 1) (by decide); have a2 := lv_neT hc5 (a := 2) (by decide); have a3 := lv_neT hc6 (a := 3) (by decide); have a4 := lv_neT hc7 (a := 4) (by decide); have a5 := lv_neT hc8 (a := 5) (by decide); have a6 := lv_neT hc9 (a := 6) (by decide); omega) (by decide) ?_
                refine ab_iconst C dX10_count_82 (v := (-1)) rfl ?_
                obtain rfl := Option.some.inj h
                exact ab_iret C dX10_count_83
end
def fX10_sets_b17_o (kk17 : Int32 → ab_S → Option ab_S) (v2 : Int32) (σ : ab_S) : Option ab_S := (if 5 ≤ v2 then ab_k (ab_si σ 0 0 5 0) fun σ2 => ab_k (ab_si σ2 0 0 4 0) fun σ3 => ab_k (ab_si σ3 0 0 7 ((σ3.1 0 0 7) + 1)) fun σ4 => some σ4 else (if ab_inb v2 7 = true then ab_k (ab_si σ 1 0 v2.toNatClampNeg 1) fun σ6 => (if ab_inb v2 5 = true then ab_k (ab_si σ6 7 0 v2.toNatClampNeg 0) fun σ8 => kk17 (v2 + 1) σ8 else none) else none))
def fX10_sets_b17 : Nat → Int32 → ab_S → Option ab_S
  | 0 => fun _ _ => none
  | n + 1 => fX10_sets_b17_o  (fX10_sets_b17 n)
def fX10_sets (x1 : Int32) (σ : ab_S) : Option ab_S := ab_k (ab_si σ 0 0 6 x1) fun σ1 => ab_k (ab_si σ1 0 0 8 0) fun σ2 => ab_k (ab_si σ2 0 0 9 0) fun σ3 => fX10_sets_b17 ab_N 0 σ3
section
variable {p : Program} {l : Launch} {e : Env} {s : State} {m : MethodId} {args : Array Value} {below : List Frame} {meth : Method} {c : Code} {D : va_G} {cA : Nat → ClassId} {ad : Nat → Nat → Nat}
set_option maxRecDepth 100000 in
set_option maxHeartbeats 4000000 in
theorem gX10_sets_b17_o {R : ab_S} (C : ab_C yM p s m args meth c D cA ad cX10_sets 3 RX10 none) {kk17 : Int32 → ab_S → Option ab_S} (hk17 : ∀ (v2 : Int32) (σ : ab_S), kk17 v2 σ = some R → ab_G yM p l e s m args below meth c D cA ad 3 0 none R 17 [some (.inr (.inr (0, 0))), none, some (.inl v2)] [] σ) (v2 : Int32) (σ : ab_S) (h : fX10_sets_b17_o kk17 v2 σ = some R) : ab_G yM p l e s m args below meth c D cA ad 3 0 none R 17 [some (.inr (.inr (0, 0))), none, some (.inl v2)] [] σ := by
  refine ab_iload_n C dX10_sets_17 rfl ?_
  refine ab_iconst C dX10_sets_18 (v := 5) rfl ?_
  refine ab_icmp_ge C (tgt := 42) dX10_sets_19 (by decide) (fun hc1 => ?_) (fun hc1 => ?_)
  · replace h := ab_pos hc1 h
    refine ab_aload_n C dX10_sets_42 rfl ?_
    refine ab_iconst C dX10_sets_43 (v := 0) rfl ?_
    refine ab_putI C dX10_sets_44 fpX10_96 rkM_0 rfl mmM_0 rfl rfl ?_
    refine ab_nmS (fun σ2 eσ2 => ?_)
    replace h := ab_kh eσ2 h
    refine ab_aload_n C dX10_sets_47 rfl ?_
    refine ab_iconst C dX10_sets_48 (v := 0) rfl ?_
    refine ab_putI C dX10_sets_49 fpX10_99 rkM_0 rfl mmM_0 rfl rfl ?_
    refine ab_nmS (fun σ3 eσ3 => ?_)
    replace h := ab_kh eσ3 h
    refine ab_aload_n C dX10_sets_52 rfl ?_
    refine ab_dup C dX10_sets_53 rfl ?_
    refine ab_getI C dX10_sets_54 flX10_102 rkM_0 rfl mmM_0 ?_
    refine ab_iconst C dX10_sets_57 (v := 1) rfl ?_
    refine ab_iadd C dX10_sets_58  ?_
    refine ab_putI C dX10_sets_59 fpX10_102 rkM_0 rfl mmM_0 rfl rfl ?_
    refine ab_nmS (fun σ4 eσ4 => ?_)
    replace h := ab_kh eσ4 h
    obtain rfl := Option.some.inj h
    exact ab_vret C dX10_sets_62
  · replace h := ab_neg hc1 h
    refine ab_aload_n C dX10_sets_22 rfl ?_
    refine ab_getR C dX10_sets_23 flX10_11 rkM_0 rfl mmM_0 ?_
    refine ab_iload_n C dX10_sets_26 rfl ?_
    refine ab_iconst C dX10_sets_27 (v := 1) rfl ?_
    obtain ⟨hg5, h⟩ := ab_grd h
    refine ab_iast C dX10_sets_28 rkM_1 mmM_1 hg5 ?_
    refine ab_nmS (fun σ6 eσ6 => ?_)
    replace h := ab_kh eσ6 h
    refine ab_aload_n C dX10_sets_29 rfl ?_
    refine ab_getR C dX10_sets_30 flX10_30 rkM_0 rfl mmM_0 ?_
    refine ab_iload_n C dX10_sets_33 rfl ?_
    refine ab_iconst C dX10_sets_34 (v := 0) rfl ?_
    obtain ⟨hg7, h⟩ := ab_grd h
    refine ab_iast C dX10_sets_35 rkM_7 mmM_7 hg7 ?_
    refine ab_nmS (fun σ8 eσ8 => ?_)
    replace h := ab_kh eσ8 h
    refine ab_iinc C dX10_sets_36 rfl (v := 1) rfl (Nat.le_of_ble_eq_true rfl) ?_
    refine ab_goto C (tgt := 17) dX10_sets_39 (by decide) ?_
    refine ab_weak (lv' := [some (.inr (.inr (0, 0))), none, some (.inl (v2 + 1))]) ⟨.inr rfl, ⟨.inl rfl, ⟨.inr rfl, trivial⟩⟩⟩ ?_
    exact hk17 _ _ h
theorem gX10_sets_b17 {R : ab_S} (C : ab_C yM p s m args meth c D cA ad cX10_sets 3 RX10 none) : ∀ (j : Nat) (v2 : Int32) (σ : ab_S), fX10_sets_b17 j v2 σ = some R → ab_G yM p l e s m args below meth c D cA ad 3 0 none R 17 [some (.inr (.inr (0, 0))), none, some (.inl v2)] [] σ := by
  intro j
  induction j with
  | zero => intro v2 σ  h; cases h
  | succ j ih => intro v2 σ  h; exact gX10_sets_b17_o C ih _ _ h
set_option maxRecDepth 100000 in
set_option maxHeartbeats 4000000 in
theorem tX10_sets (l : Launch) (x1 : Int32) (σ : ab_S) {R : ab_S} (h : fX10_sets x1 σ = some R) : ab_M l yM yX10_sets cX10_sets 3 none 0 [.inr (.inr (0, 0)), .inl x1] σ none R := by
  refine ab_M_intro ndM (by decide) (Nat.le_of_ble_eq_true rfl) ?_
  intro p e s m args below meth c D cA ad C
  have C : ab_C yM p s m args meth c D cA ad cX10_sets 3 RX10 none := C
  refine ab_weak (lv' := [some (.inr (.inr (0, 0))), some (.inl x1), none]) ⟨.inr rfl, ⟨.inr rfl, ⟨.inl rfl, trivial⟩⟩⟩ ?_
  refine ab_aload_n C dX10_sets_0 rfl ?_
  refine ab_iload_n C dX10_sets_1 rfl ?_
  refine ab_putI C dX10_sets_2 fpX10_86 rkM_0 rfl mmM_0 rfl rfl ?_
  refine ab_nmS (fun σ1 eσ1 => ?_)
  replace h := ab_kh eσ1 h
  refine ab_aload_n C dX10_sets_5 rfl ?_
  refine ab_iconst C dX10_sets_6 (v := 0) rfl ?_
  refine ab_putI C dX10_sets_7 fpX10_90 rkM_0 rfl mmM_0 rfl rfl ?_
  refine ab_nmS (fun σ2 eσ2 => ?_)
  replace h := ab_kh eσ2 h
  refine ab_aload_n C dX10_sets_10 rfl ?_
  refine ab_iconst C dX10_sets_11 (v := 0) rfl ?_
  refine ab_putI C dX10_sets_12 fpX10_93 rkM_0 rfl mmM_0 rfl rfl ?_
  refine ab_nmS (fun σ3 eσ3 => ?_)
  replace h := ab_kh eσ3 h
  refine ab_iconst C dX10_sets_15 (v := 0) rfl ?_
  refine ab_istore_n C dX10_sets_16 (Nat.le_of_ble_eq_true rfl) ?_
  refine ab_weak (lv' := [some (.inr (.inr (0, 0))), none, some (.inl 0)]) ⟨.inr rfl, ⟨.inl rfl, ⟨.inr rfl, trivial⟩⟩⟩ ?_
  exact gX10_sets_b17 C ab_N _ _ h
end
def fX10_doors (x1 : Int32) (σ : ab_S) : Option (Int32 × ab_S) := (fX10_within ((x1 : Int32).toInt64) 2 5).bind fun q1 => (if q1 = 0 then some ((-1), σ) else (fX10_sets x1 σ).bind fun q3 => some (σ.1 0 0 6, q3))
section
variable {p : Program} {l : Launch} {e : Env} {s : State} {m : MethodId} {args : Array Value} {below : List Frame} {meth : Method} {c : Code} {D : va_G} {cA : Nat → ClassId} {ad : Nat → Nat → Nat}
set_option maxRecDepth 100000 in
set_option maxHeartbeats 4000000 in
theorem tX10_doors (l : Launch) (x1 : Int32) (σ : ab_S) {R : (Int32 × ab_S)} (h : fX10_doors x1 σ = some R) : ab_M l yM yX10_doors cX10_doors 3 (some .int) 1 [.inr (.inr (0, 0)), .inl x1] σ (some (.inl R.1)) R.2 := by
  refine ab_M_intro ndM (by decide) (Nat.le_of_ble_eq_true rfl) ?_
  intro p e s m args below meth c D cA ad C
  have C : ab_C yM p s m args meth c D cA ad cX10_doors 3 RX10 (some .int) := C
  refine ab_weak (lv' := [some (.inr (.inr (0, 0))), some (.inl x1), none]) ⟨.inr rfl, ⟨.inr rfl, ⟨.inl rfl, trivial⟩⟩⟩ ?_
  refine ab_iload_n C dX10_doors_0 rfl ?_
  refine ab_i2l C dX10_doors_1  ?_
  refine ab_ldc2 C dX10_doors_2 cwX10_109 ?_
  refine ab_ldc2 C dX10_doors_5 cwX10_111 ?_
  obtain ⟨q1, hq1, h⟩ := ab_bind h
  refine ab_invS1 C dX10_doors_8 mlX10_105 ysX10_within (tX10_within l _ _ _ _ hq1) (Nat.le_of_ble_eq_true rfl) (Nat.le_of_ble_eq_true rfl) rfl (Nat.le_of_ble_eq_true rfl) ?_
  refine ab_if_ne C (tgt := 16) dX10_doors_11 (by decide) (fun hc2 => ?_) (fun hc2 => ?_)
  · replace h := ab_neg hc2 h
    refine ab_aload_n C dX10_doors_16 rfl ?_
    refine ab_getI C dX10_doors_17 flX10_86 rkM_0 rfl mmM_0 ?_
    refine ab_istore_n C dX10_doors_20 (Nat.le_of_ble_eq_true rfl) ?_
    refine ab_aload_n C dX10_doors_21 rfl ?_
    refine ab_iload_n C dX10_doors_22 rfl ?_
    obtain ⟨q3, hq3, h⟩ := ab_bind h
    refine ab_inv0 C dX10_doors_23 mlX10_82 yvX10_sets rkM_0 ⟨_, _, rfl⟩ mmM_0 (tX10_sets l _ _ hq3) (Nat.le_of_ble_eq_true rfl) (Nat.le_of_ble_eq_true rfl) rfl (Nat.le_of_ble_eq_true rfl) ?_
    refine ab_iload_n C dX10_doors_26 rfl ?_
    obtain rfl := Option.some.inj h
    exact ab_iret C dX10_doors_27
  · replace h := ab_pos hc2 h
    refine ab_iconst C dX10_doors_14 (v := (-1)) rfl ?_
    obtain rfl := Option.some.inj h
    exact ab_iret C dX10_doors_15
end
def fX10_draws (x1 : Int32) (σ : ab_S) : Option (Int32 × ab_S) := ab_k (ab_si σ 0 0 26 (((σ.1 0 0 26) * 1103515245) + 12345)) fun σ1 => (if x1 = 0 then none else some (ab_mod (ab_ushr (σ1.1 0 0 26) 8) x1, σ1))
section
variable {p : Program} {l : Launch} {e : Env} {s : State} {m : MethodId} {args : Array Value} {below : List Frame} {meth : Method} {c : Code} {D : va_G} {cA : Nat → ClassId} {ad : Nat → Nat → Nat}
set_option maxRecDepth 100000 in
set_option maxHeartbeats 4000000 in
theorem tX10_draws (l : Launch) (x1 : Int32) (σ : ab_S) {R : (Int32 × ab_S)} (h : fX10_draws x1 σ = some R) : ab_M l yM yX10_draws cX10_draws 2 (some .int) 0 [.inr (.inr (0, 0)), .inl x1] σ (some (.inl R.1)) R.2 := by
  refine ab_M_intro ndM (by decide) (Nat.le_of_ble_eq_true rfl) ?_
  intro p e s m args below meth c D cA ad C
  have C : ab_C yM p s m args meth c D cA ad cX10_draws 2 RX10 (some .int) := C
  refine ab_weak (lv' := [some (.inr (.inr (0, 0))), some (.inl x1)]) ⟨.inr rfl, ⟨.inr rfl, trivial⟩⟩ ?_
  refine ab_aload_n C dX10_draws_0 rfl ?_
  refine ab_aload_n C dX10_draws_1 rfl ?_
  refine ab_getI C dX10_draws_2 flX10_304 rkM_0 rfl mmM_0 ?_
  refine ab_ldcw C dX10_draws_5 cwX10_307 ?_
  refine ab_imul C dX10_draws_8  ?_
  refine ab_sipush C dX10_draws_9 (v := 12345) rfl ?_
  refine ab_iadd C dX10_draws_12  ?_
  refine ab_putI C dX10_draws_13 fpX10_304 rkM_0 rfl mmM_0 rfl rfl ?_
  refine ab_nmS (fun σ1 eσ1 => ?_)
  replace h := ab_kh eσ1 h
  refine ab_aload_n C dX10_draws_16 rfl ?_
  refine ab_getI C dX10_draws_17 flX10_304 rkM_0 rfl mmM_0 ?_
  refine ab_bipush C dX10_draws_20 (v := 8) rfl ?_
  refine ab_iushr C dX10_draws_22  ?_
  refine ab_iload_n C dX10_draws_23 rfl ?_
  obtain ⟨hg2, h⟩ := ab_grn h
  refine ab_irem C dX10_draws_24 hg2 ?_
  obtain rfl := Option.some.inj h
  exact ab_iret C dX10_draws_25
end
def fX10_drawnCow_b11_o (kk11 : Int32 → Int32 → ab_S → Option (Int32 × ab_S)) (v1 : Int32) (v2 : Int32) (σ : ab_S) : Option (Int32 × ab_S) := (if ab_inb v2 7 = true then (if v1 < (σ.1 1 0 v2.toNatClampNeg) then some (v2, σ) else (if ab_inb v2 7 = true then kk11 (v1 - (σ.1 1 0 v2.toNatClampNeg)) (v2 + 1) σ else none)) else none)
def fX10_drawnCow_b11 : Nat → Int32 → Int32 → ab_S → Option (Int32 × ab_S)
  | 0 => fun _ _ _ => none
  | n + 1 => fX10_drawnCow_b11_o  (fX10_drawnCow_b11 n)
def fX10_drawnCow (σ : ab_S) : Option (Int32 × ab_S) := (fX10_allWeights σ).bind fun q1 => (fX10_draws q1 σ).bind fun q2 => fX10_drawnCow_b11 ab_N q2.1 0 q2.2
section
variable {p : Program} {l : Launch} {e : Env} {s : State} {m : MethodId} {args : Array Value} {below : List Frame} {meth : Method} {c : Code} {D : va_G} {cA : Nat → ClassId} {ad : Nat → Nat → Nat}
set_option maxRecDepth 100000 in
set_option maxHeartbeats 4000000 in
theorem gX10_drawnCow_b11_o {R : (Int32 × ab_S)} (C : ab_C yM p s m args meth c D cA ad cX10_drawnCow 3 RX10 (some .int)) {kk11 : Int32 → Int32 → ab_S → Option (Int32 × ab_S)} (hk11 : ∀ (v1 : Int32) (v2 : Int32) (σ : ab_S), kk11 v1 v2 σ = some R → ab_G yM p l e s m args below meth c D cA ad 3 1 (some (.inl R.1)) R.2 11 [some (.inr (.inr (0, 0))), some (.inl v1), some (.inl v2)] [] σ) (v1 : Int32) (v2 : Int32) (σ : ab_S) (h : fX10_drawnCow_b11_o kk11 v1 v2 σ = some R) : ab_G yM p l e s m args below meth c D cA ad 3 1 (some (.inl R.1)) R.2 11 [some (.inr (.inr (0, 0))), some (.inl v1), some (.inl v2)] [] σ := by
  refine ab_iload_n C dX10_drawnCow_11 rfl ?_
  refine ab_aload_n C dX10_drawnCow_12 rfl ?_
  refine ab_getR C dX10_drawnCow_13 flX10_11 rkM_0 rfl mmM_0 ?_
  refine ab_iload_n C dX10_drawnCow_16 rfl ?_
  obtain ⟨hg1, h⟩ := ab_grd h
  refine ab_iald C dX10_drawnCow_17 rkM_1 mmM_1 hg1 ?_
  refine ab_icmp_lt C (tgt := 36) dX10_drawnCow_18 (by decide) (fun hc2 => ?_) (fun hc2 => ?_)
  · replace h := ab_pos hc2 h
    refine ab_iload_n C dX10_drawnCow_36 rfl ?_
    obtain rfl := Option.some.inj h
    exact ab_iret C dX10_drawnCow_37
  · replace h := ab_neg hc2 h
    refine ab_iload_n C dX10_drawnCow_21 rfl ?_
    refine ab_aload_n C dX10_drawnCow_22 rfl ?_
    refine ab_getR C dX10_drawnCow_23 flX10_11 rkM_0 rfl mmM_0 ?_
    refine ab_iload_n C dX10_drawnCow_26 rfl ?_
    obtain ⟨hg3, h⟩ := ab_grd h
    refine ab_iald C dX10_drawnCow_27 rkM_1 mmM_1 hg3 ?_
    refine ab_isub C dX10_drawnCow_28  ?_
    refine ab_istore_n C dX10_drawnCow_29 (Nat.le_of_ble_eq_true rfl) ?_
    refine ab_iinc C dX10_drawnCow_30 rfl (v := 1) rfl (Nat.le_of_ble_eq_true rfl) ?_
    refine ab_goto C (tgt := 11) dX10_drawnCow_33 (by decide) ?_
    refine ab_weak (lv' := [some (.inr (.inr (0, 0))), some (.inl (v1 - (σ.1 1 0 v2.toNatClampNeg))), some (.inl (v2 + 1))]) ⟨.inr rfl, ⟨.inr rfl, ⟨.inr rfl, trivial⟩⟩⟩ ?_
    exact hk11 _ _ _ h
theorem gX10_drawnCow_b11 {R : (Int32 × ab_S)} (C : ab_C yM p s m args meth c D cA ad cX10_drawnCow 3 RX10 (some .int)) : ∀ (j : Nat) (v1 : Int32) (v2 : Int32) (σ : ab_S), fX10_drawnCow_b11 j v1 v2 σ = some R → ab_G yM p l e s m args below meth c D cA ad 3 1 (some (.inl R.1)) R.2 11 [some (.inr (.inr (0, 0))), some (.inl v1), some (.inl v2)] [] σ := by
  intro j
  induction j with
  | zero => intro v1 v2 σ  h; cases h
  | succ j ih => intro v1 v2 σ  h; exact gX10_drawnCow_b11_o C ih _ _ _ h
set_option maxRecDepth 100000 in
set_option maxHeartbeats 4000000 in
theorem tX10_drawnCow (l : Launch) (σ : ab_S) {R : (Int32 × ab_S)} (h : fX10_drawnCow σ = some R) : ab_M l yM yX10_drawnCow cX10_drawnCow 3 (some .int) 1 [.inr (.inr (0, 0))] σ (some (.inl R.1)) R.2 := by
  refine ab_M_intro ndM (by decide) (Nat.le_of_ble_eq_true rfl) ?_
  intro p e s m args below meth c D cA ad C
  have C : ab_C yM p s m args meth c D cA ad cX10_drawnCow 3 RX10 (some .int) := C
  refine ab_weak (lv' := [some (.inr (.inr (0, 0))), none, none]) ⟨.inr rfl, ⟨.inl rfl, ⟨.inl rfl, trivial⟩⟩⟩ ?_
  refine ab_aload_n C dX10_drawnCow_0 rfl ?_
  refine ab_aload_n C dX10_drawnCow_1 rfl ?_
  obtain ⟨q1, hq1, h⟩ := ab_bind h
  refine ab_inv1 C dX10_drawnCow_2 mlX10_259 yvX10_allWeights rkM_0 ⟨_, _, rfl⟩ mmM_0 (tX10_allWeights l _ hq1) (Nat.le_of_ble_eq_true rfl) (Nat.le_of_ble_eq_true rfl) rfl (Nat.le_of_ble_eq_true rfl) ?_
  obtain ⟨q2, hq2, h⟩ := ab_bind h
  refine ab_inv1 C dX10_drawnCow_5 mlX10_308 yvX10_draws rkM_0 ⟨_, _, rfl⟩ mmM_0 (tX10_draws l _ _ hq2) (Nat.le_of_ble_eq_true rfl) (Nat.le_of_ble_eq_true rfl) rfl (Nat.le_of_ble_eq_true rfl) ?_
  refine ab_istore_n C dX10_drawnCow_8 (Nat.le_of_ble_eq_true rfl) ?_
  refine ab_iconst C dX10_drawnCow_9 (v := 0) rfl ?_
  refine ab_istore_n C dX10_drawnCow_10 (Nat.le_of_ble_eq_true rfl) ?_
  refine ab_weak (lv' := [some (.inr (.inr (0, 0))), some (.inl q2.1), some (.inl 0)]) ⟨.inr rfl, ⟨.inr rfl, ⟨.inr rfl, trivial⟩⟩⟩ ?_
  exact gX10_drawnCow_b11 C ab_N _ _ _ h
end
def fX10_drawnOpen_b60 (kk3 : Int32 → Int32 → Int32 → Int32 → Int32 → ab_S → Option (Int32 × ab_S)) (v1 : Int32) (v2 : Int32) (v3 : Int32) (v4 : Int32) (v5 : Int32) (σ : ab_S) : Option (Int32 × ab_S) := kk3 v1 v2 v3 v4 (v5 + 1) σ
def fX10_drawnOpen_b3_o (kk3 : Int32 → Int32 → Int32 → Int32 → Int32 → ab_S → Option (Int32 × ab_S)) (v1 : Int32) (v2 : Int32) (v3 : Int32) (v4 : Int32) (v5 : Int32) (σ : ab_S) : Option (Int32 × ab_S) := (if (σ.1 0 0 6) ≤ v5 then some (v3, σ) else (if v5 = v2 then fX10_drawnOpen_b60 kk3 v1 v2 v3 v4 v5 σ else (fX10_isIn v3 v5).bind fun q3 => (if q3 = 0 then (fX10_draws 12 σ).bind fun q5 => (if ab_inb 5 7 = true then (fX10_gives (q5.2.1 1 0 ((5 : Int32).toNatClampNeg)) v5 v1 v2 v3 v4 q5.2).bind fun q7 => (if q7.1 ≤ q5.1 then fX10_drawnOpen_b60 kk3 v1 v2 v3 v4 v5 q7.2 else some (v3 ||| (1 <<< (v5 &&& 31)), q7.2)) else none) else fX10_drawnOpen_b60 kk3 v1 v2 v3 v4 v5 σ)))
def fX10_drawnOpen_b3 : Nat → Int32 → Int32 → Int32 → Int32 → Int32 → ab_S → Option (Int32 × ab_S)
  | 0 => fun _ _ _ _ _ _ => none
  | n + 1 => fX10_drawnOpen_b3_o  (fX10_drawnOpen_b3 n)
def fX10_drawnOpen (x1 : Int32) (x2 : Int32) (x3 : Int32) (x4 : Int32) (σ : ab_S) : Option (Int32 × ab_S) := fX10_drawnOpen_b3 ab_N x1 x2 x3 x4 0 σ
section
variable {p : Program} {l : Launch} {e : Env} {s : State} {m : MethodId} {args : Array Value} {below : List Frame} {meth : Method} {c : Code} {D : va_G} {cA : Nat → ClassId} {ad : Nat → Nat → Nat}
set_option maxRecDepth 100000 in
set_option maxHeartbeats 4000000 in
theorem gX10_drawnOpen_b60 {R : (Int32 × ab_S)} (C : ab_C yM p s m args meth c D cA ad cX10_drawnOpen 6 RX10 (some .int)) {kk3 : Int32 → Int32 → Int32 → Int32 → Int32 → ab_S → Option (Int32 × ab_S)} (hk3 : ∀ (v1 : Int32) (v2 : Int32) (v3 : Int32) (v4 : Int32) (v5 : Int32) (σ : ab_S), kk3 v1 v2 v3 v4 v5 σ = some R → ab_G yM p l e s m args below meth c D cA ad 6 69 (some (.inl R.1)) R.2 3 [some (.inr (.inr (0, 0))), some (.inl v1), some (.inl v2), some (.inl v3), some (.inl v4), some (.inl v5)] [] σ) (v1 : Int32) (v2 : Int32) (v3 : Int32) (v4 : Int32) (v5 : Int32) (σ : ab_S) (h : fX10_drawnOpen_b60 kk3 v1 v2 v3 v4 v5 σ = some R) : ab_G yM p l e s m args below meth c D cA ad 6 69 (some (.inl R.1)) R.2 60 [some (.inr (.inr (0, 0))), some (.inl v1), some (.inl v2), some (.inl v3), some (.inl v4), some (.inl v5)] [] σ := by
  refine ab_iinc C dX10_drawnOpen_60 rfl (v := 1) rfl (Nat.le_of_ble_eq_true rfl) ?_
  refine ab_goto C (tgt := 3) dX10_drawnOpen_63 (by decide) ?_
  refine ab_weak (lv' := [some (.inr (.inr (0, 0))), some (.inl v1), some (.inl v2), some (.inl v3), some (.inl v4), some (.inl (v5 + 1))]) ⟨.inr rfl, ⟨.inr rfl, ⟨.inr rfl, ⟨.inr rfl, ⟨.inr rfl, ⟨.inr rfl, trivial⟩⟩⟩⟩⟩⟩ ?_
  exact hk3 _ _ _ _ _ _ h
set_option maxRecDepth 100000 in
set_option maxHeartbeats 4000000 in
theorem gX10_drawnOpen_b3_o {R : (Int32 × ab_S)} (C : ab_C yM p s m args meth c D cA ad cX10_drawnOpen 6 RX10 (some .int)) {kk3 : Int32 → Int32 → Int32 → Int32 → Int32 → ab_S → Option (Int32 × ab_S)} (hk3 : ∀ (v1 : Int32) (v2 : Int32) (v3 : Int32) (v4 : Int32) (v5 : Int32) (σ : ab_S), kk3 v1 v2 v3 v4 v5 σ = some R → ab_G yM p l e s m args below meth c D cA ad 6 69 (some (.inl R.1)) R.2 3 [some (.inr (.inr (0, 0))), some (.inl v1), some (.inl v2), some (.inl v3), some (.inl v4), some (.inl v5)] [] σ) (v1 : Int32) (v2 : Int32) (v3 : Int32) (v4 : Int32) (v5 : Int32) (σ : ab_S) (h : fX10_drawnOpen_b3_o kk3 v1 v2 v3 v4 v5 σ = some R) : ab_G yM p l e s m args below meth c D cA ad 6 69 (some (.inl R.1)) R.2 3 [some (.inr (.inr (0, 0))), some (.inl v1), some (.inl v2), some (.inl v3), some (.inl v4), some (.inl v5)] [] σ := by
  refine ab_iload C dX10_drawnOpen_3 rfl ?_
  refine ab_aload_n C dX10_drawnOpen_5 rfl ?_
  refine ab_getI C dX10_drawnOpen_6 flX10_86 rkM_0 rfl mmM_0 ?_
  refine ab_icmp_ge C (tgt := 66) dX10_drawnOpen_9 (by decide) (fun hc1 => ?_) (fun hc1 => ?_)
  · replace h := ab_pos hc1 h
    refine ab_iload_n C dX10_drawnOpen_66 rfl ?_
    obtain rfl := Option.some.inj h
    exact ab_iret C dX10_drawnOpen_67
  · replace h := ab_neg hc1 h
    refine ab_iload C dX10_drawnOpen_12 rfl ?_
    refine ab_iload_n C dX10_drawnOpen_14 rfl ?_
    refine ab_icmp_eq C (tgt := 60) dX10_drawnOpen_15 (by decide) (fun hc2 => ?_) (fun hc2 => ?_)
    · replace h := ab_pos hc2 h
      refine ab_weak (lv' := [some (.inr (.inr (0, 0))), some (.inl v1), some (.inl v2), some (.inl v3), some (.inl v4), some (.inl v5)]) ⟨.inr rfl, ⟨.inr rfl, ⟨.inr rfl, ⟨.inr rfl, ⟨.inr rfl, ⟨.inr rfl, trivial⟩⟩⟩⟩⟩⟩ ?_
      exact gX10_drawnOpen_b60 C hk3 _ _ _ _ _ _ h
    · replace h := ab_neg hc2 h
      refine ab_iload_n C dX10_drawnOpen_18 rfl ?_
      refine ab_iload C dX10_drawnOpen_19 rfl ?_
      obtain ⟨q3, hq3, h⟩ := ab_bind h
      refine ab_invS1 C dX10_drawnOpen_21 mlX10_138 ysX10_isIn (tX10_isIn l _ _ _ hq3) (Nat.le_of_ble_eq_true rfl) (Nat.le_of_ble_eq_true rfl) rfl (Nat.le_of_ble_eq_true rfl) ?_
      refine ab_if_ne C (tgt := 60) dX10_drawnOpen_24 (by decide) (fun hc4 => ?_) (fun hc4 => ?_)
      · replace h := ab_neg hc4 h
        refine ab_weak (lv' := [some (.inr (.inr (0, 0))), some (.inl v1), some (.inl v2), some (.inl v3), some (.inl v4), some (.inl v5)]) ⟨.inr rfl, ⟨.inr rfl, ⟨.inr rfl, ⟨.inr rfl, ⟨.inr rfl, ⟨.inr rfl, trivial⟩⟩⟩⟩⟩⟩ ?_
        exact gX10_drawnOpen_b60 C hk3 _ _ _ _ _ _ h
      · replace h := ab_pos hc4 h
        refine ab_aload_n C dX10_drawnOpen_27 rfl ?_
        refine ab_bipush C dX10_drawnOpen_28 (v := 12) rfl ?_
        obtain ⟨q5, hq5, h⟩ := ab_bind h
        refine ab_inv1 C dX10_drawnOpen_30 mlX10_308 yvX10_draws rkM_0 ⟨_, _, rfl⟩ mmM_0 (tX10_draws l _ _ hq5) (Nat.le_of_ble_eq_true rfl) (Nat.le_of_ble_eq_true rfl) rfl (Nat.le_of_ble_eq_true rfl) ?_
        refine ab_aload_n C dX10_drawnOpen_33 rfl ?_
        refine ab_aload_n C dX10_drawnOpen_34 rfl ?_
        refine ab_getR C dX10_drawnOpen_35 flX10_11 rkM_0 rfl mmM_0 ?_
        refine ab_iconst C dX10_drawnOpen_38 (v := 5) rfl ?_
        obtain ⟨hg6, h⟩ := ab_grd h
        refine ab_iald C dX10_drawnOpen_39 rkM_1 mmM_1 hg6 ?_
        refine ab_iload C dX10_drawnOpen_40 rfl ?_
        refine ab_iload_n C dX10_drawnOpen_42 rfl ?_
        refine ab_iload_n C dX10_drawnOpen_43 rfl ?_
        refine ab_iload_n C dX10_drawnOpen_44 rfl ?_
        refine ab_iload C dX10_drawnOpen_45 rfl ?_
        obtain ⟨q7, hq7, h⟩ := ab_bind h
        refine ab_inv1 C dX10_drawnOpen_47 mlX10_205 yvX10_gives rkM_0 ⟨_, _, rfl⟩ mmM_0 (tX10_gives l _ _ _ _ _ _ _ hq7) (Nat.le_of_ble_eq_true rfl) (Nat.le_of_ble_eq_true rfl) rfl (Nat.le_of_ble_eq_true rfl) ?_
        refine ab_icmp_ge C (tgt := 60) dX10_drawnOpen_50 (by decide) (fun hc8 => ?_) (fun hc8 => ?_)
        · replace h := ab_pos hc8 h
          refine ab_weak (lv' := [some (.inr (.inr (0, 0))), some (.inl v1), some (.inl v2), some (.inl v3), some (.inl v4), some (.inl v5)]) ⟨.inr rfl, ⟨.inr rfl, ⟨.inr rfl, ⟨.inr rfl, ⟨.inr rfl, ⟨.inr rfl, trivial⟩⟩⟩⟩⟩⟩ ?_
          exact gX10_drawnOpen_b60 C hk3 _ _ _ _ _ _ h
        · replace h := ab_neg hc8 h
          refine ab_iload_n C dX10_drawnOpen_53 rfl ?_
          refine ab_iconst C dX10_drawnOpen_54 (v := 1) rfl ?_
          refine ab_iload C dX10_drawnOpen_55 rfl ?_
          refine ab_ishl C dX10_drawnOpen_57  ?_
          refine ab_ior C dX10_drawnOpen_58  ?_
          obtain rfl := Option.some.inj h
          exact ab_iret C dX10_drawnOpen_59
theorem gX10_drawnOpen_b3 {R : (Int32 × ab_S)} (C : ab_C yM p s m args meth c D cA ad cX10_drawnOpen 6 RX10 (some .int)) : ∀ (j : Nat) (v1 : Int32) (v2 : Int32) (v3 : Int32) (v4 : Int32) (v5 : Int32) (σ : ab_S), fX10_drawnOpen_b3 j v1 v2 v3 v4 v5 σ = some R → ab_G yM p l e s m args below meth c D cA ad 6 69 (some (.inl R.1)) R.2 3 [some (.inr (.inr (0, 0))), some (.inl v1), some (.inl v2), some (.inl v3), some (.inl v4), some (.inl v5)] [] σ := by
  intro j
  induction j with
  | zero => intro v1 v2 v3 v4 v5 σ  h; cases h
  | succ j ih => intro v1 v2 v3 v4 v5 σ  h; exact gX10_drawnOpen_b3_o C ih _ _ _ _ _ _ h
set_option maxRecDepth 100000 in
set_option maxHeartbeats 4000000 in
theorem tX10_drawnOpen (l : Launch) (x1 : Int32) (x2 : Int32) (x3 : Int32) (x4 : Int32) (σ : ab_S) {R : (Int32 × ab_S)} (h : fX10_drawnOpen x1 x2 x3 x4 σ = some R) : ab_M l yM yX10_drawnOpen cX10_drawnOpen 6 (some .int) 69 [.inr (.inr (0, 0)), .inl x1, .inl x2, .inl x3, .inl x4] σ (some (.inl R.1)) R.2 := by
  refine ab_M_intro ndM (by decide) (Nat.le_of_ble_eq_true rfl) ?_
  intro p e s m args below meth c D cA ad C
  have C : ab_C yM p s m args meth c D cA ad cX10_drawnOpen 6 RX10 (some .int) := C
  refine ab_weak (lv' := [some (.inr (.inr (0, 0))), some (.inl x1), some (.inl x2), some (.inl x3), some (.inl x4), none]) ⟨.inr rfl, ⟨.inr rfl, ⟨.inr rfl, ⟨.inr rfl, ⟨.inr rfl, ⟨.inl rfl, trivial⟩⟩⟩⟩⟩⟩ ?_
  refine ab_iconst C dX10_drawnOpen_0 (v := 0) rfl ?_
  refine ab_istore C dX10_drawnOpen_1 (Nat.le_of_ble_eq_true rfl) ?_
  refine ab_weak (lv' := [some (.inr (.inr (0, 0))), some (.inl x1), some (.inl x2), some (.inl x3), some (.inl x4), some (.inl 0)]) ⟨.inr rfl, ⟨.inr rfl, ⟨.inr rfl, ⟨.inr rfl, ⟨.inr rfl, ⟨.inr rfl, trivial⟩⟩⟩⟩⟩⟩ ?_
  exact gX10_drawnOpen_b3 C ab_N _ _ _ _ _ _ h
end
def fX10_leastOther_b25 (kk2 : Int32 → Int32 → Int32 → ab_S → Option Int32) (v1 : Int32) (v2 : Int32) (v3 : Int32) (σ : ab_S) : Option Int32 := kk2 v1 v2 (v3 + 1) σ
def fX10_leastOther_b2_o (kk2 : Int32 → Int32 → Int32 → ab_S → Option Int32) (v1 : Int32) (v2 : Int32) (v3 : Int32) (σ : ab_S) : Option Int32 := (if (σ.1 0 0 6) ≤ v3 then some v1 else (if v3 = v1 then fX10_leastOther_b25 kk2 v1 v2 v3 σ else (fX10_isIn v2 v3).bind fun q3 => (if q3 = 0 then some v3 else fX10_leastOther_b25 kk2 v1 v2 v3 σ)))
def fX10_leastOther_b2 : Nat → Int32 → Int32 → Int32 → ab_S → Option Int32
  | 0 => fun _ _ _ _ => none
  | n + 1 => fX10_leastOther_b2_o  (fX10_leastOther_b2 n)
def fX10_leastOther (x1 : Int32) (x2 : Int32) (σ : ab_S) : Option Int32 := fX10_leastOther_b2 ab_N x1 x2 0 σ
section
variable {p : Program} {l : Launch} {e : Env} {s : State} {m : MethodId} {args : Array Value} {below : List Frame} {meth : Method} {c : Code} {D : va_G} {cA : Nat → ClassId} {ad : Nat → Nat → Nat}
set_option maxRecDepth 100000 in
set_option maxHeartbeats 4000000 in
theorem gX10_leastOther_b25 {R : Int32} (C : ab_C yM p s m args meth c D cA ad cX10_leastOther 4 RX10 (some .int)) (σ : ab_S) {kk2 : Int32 → Int32 → Int32 → ab_S → Option Int32} (hk2 : ∀ (v1 : Int32) (v2 : Int32) (v3 : Int32), kk2 v1 v2 v3 σ = some R → ab_G yM p l e s m args below meth c D cA ad 4 1 (some (.inl R)) σ 2 [some (.inr (.inr (0, 0))), some (.inl v1), some (.inl v2), some (.inl v3)] [] σ) (v1 : Int32) (v2 : Int32) (v3 : Int32) (h : fX10_leastOther_b25 kk2 v1 v2 v3 σ = some R) : ab_G yM p l e s m args below meth c D cA ad 4 1 (some (.inl R)) σ 25 [some (.inr (.inr (0, 0))), some (.inl v1), some (.inl v2), some (.inl v3)] [] σ := by
  refine ab_iinc C dX10_leastOther_25 rfl (v := 1) rfl (Nat.le_of_ble_eq_true rfl) ?_
  refine ab_goto C (tgt := 2) dX10_leastOther_28 (by decide) ?_
  refine ab_weak (lv' := [some (.inr (.inr (0, 0))), some (.inl v1), some (.inl v2), some (.inl (v3 + 1))]) ⟨.inr rfl, ⟨.inr rfl, ⟨.inr rfl, ⟨.inr rfl, trivial⟩⟩⟩⟩ ?_
  exact hk2 _ _ _ h
set_option maxRecDepth 100000 in
set_option maxHeartbeats 4000000 in
theorem gX10_leastOther_b2_o {R : Int32} (C : ab_C yM p s m args meth c D cA ad cX10_leastOther 4 RX10 (some .int)) (σ : ab_S) {kk2 : Int32 → Int32 → Int32 → ab_S → Option Int32} (hk2 : ∀ (v1 : Int32) (v2 : Int32) (v3 : Int32), kk2 v1 v2 v3 σ = some R → ab_G yM p l e s m args below meth c D cA ad 4 1 (some (.inl R)) σ 2 [some (.inr (.inr (0, 0))), some (.inl v1), some (.inl v2), some (.inl v3)] [] σ) (v1 : Int32) (v2 : Int32) (v3 : Int32) (h : fX10_leastOther_b2_o kk2 v1 v2 v3 σ = some R) : ab_G yM p l e s m args below meth c D cA ad 4 1 (some (.inl R)) σ 2 [some (.inr (.inr (0, 0))), some (.inl v1), some (.inl v2), some (.inl v3)] [] σ := by
  refine ab_iload_n C dX10_leastOther_2 rfl ?_
  refine ab_aload_n C dX10_leastOther_3 rfl ?_
  refine ab_getI C dX10_leastOther_4 flX10_86 rkM_0 rfl mmM_0 ?_
  refine ab_icmp_ge C (tgt := 31) dX10_leastOther_7 (by decide) (fun hc1 => ?_) (fun hc1 => ?_)
  · replace h := ab_pos hc1 h
    refine ab_iload_n C dX10_leastOther_31 rfl ?_
    obtain rfl := Option.some.inj h
    exact ab_iret C dX10_leastOther_32
  · replace h := ab_neg hc1 h
    refine ab_iload_n C dX10_leastOther_10 rfl ?_
    refine ab_iload_n C dX10_leastOther_11 rfl ?_
    refine ab_icmp_eq C (tgt := 25) dX10_leastOther_12 (by decide) (fun hc2 => ?_) (fun hc2 => ?_)
    · replace h := ab_pos hc2 h
      refine ab_weak (lv' := [some (.inr (.inr (0, 0))), some (.inl v1), some (.inl v2), some (.inl v3)]) ⟨.inr rfl, ⟨.inr rfl, ⟨.inr rfl, ⟨.inr rfl, trivial⟩⟩⟩⟩ ?_
      exact gX10_leastOther_b25 C _ hk2 _ _ _ h
    · replace h := ab_neg hc2 h
      refine ab_iload_n C dX10_leastOther_15 rfl ?_
      refine ab_iload_n C dX10_leastOther_16 rfl ?_
      obtain ⟨q3, hq3, h⟩ := ab_bind h
      refine ab_invS1 C dX10_leastOther_17 mlX10_138 ysX10_isIn (tX10_isIn l _ _ _ hq3) (Nat.le_of_ble_eq_true rfl) (Nat.le_of_ble_eq_true rfl) rfl (Nat.le_of_ble_eq_true rfl) ?_
      refine ab_if_ne C (tgt := 25) dX10_leastOther_20 (by decide) (fun hc4 => ?_) (fun hc4 => ?_)
      · replace h := ab_neg hc4 h
        refine ab_weak (lv' := [some (.inr (.inr (0, 0))), some (.inl v1), some (.inl v2), some (.inl v3)]) ⟨.inr rfl, ⟨.inr rfl, ⟨.inr rfl, ⟨.inr rfl, trivial⟩⟩⟩⟩ ?_
        exact gX10_leastOther_b25 C _ hk2 _ _ _ h
      · replace h := ab_pos hc4 h
        refine ab_iload_n C dX10_leastOther_23 rfl ?_
        obtain rfl := Option.some.inj h
        exact ab_iret C dX10_leastOther_24
theorem gX10_leastOther_b2 {R : Int32} (C : ab_C yM p s m args meth c D cA ad cX10_leastOther 4 RX10 (some .int)) (σ : ab_S) : ∀ (j : Nat) (v1 : Int32) (v2 : Int32) (v3 : Int32), fX10_leastOther_b2 j v1 v2 v3 σ = some R → ab_G yM p l e s m args below meth c D cA ad 4 1 (some (.inl R)) σ 2 [some (.inr (.inr (0, 0))), some (.inl v1), some (.inl v2), some (.inl v3)] [] σ := by
  intro j
  induction j with
  | zero => intro v1 v2 v3  h; cases h
  | succ j ih => intro v1 v2 v3  h; exact gX10_leastOther_b2_o C σ ih _ _ _ h
set_option maxRecDepth 100000 in
set_option maxHeartbeats 4000000 in
theorem tX10_leastOther (l : Launch) (x1 : Int32) (x2 : Int32) (σ : ab_S) {R : Int32} (h : fX10_leastOther x1 x2 σ = some R) : ab_M l yM yX10_leastOther cX10_leastOther 4 (some .int) 1 [.inr (.inr (0, 0)), .inl x1, .inl x2] σ (some (.inl R)) σ := by
  refine ab_M_intro ndM (by decide) (Nat.le_of_ble_eq_true rfl) ?_
  intro p e s m args below meth c D cA ad C
  have C : ab_C yM p s m args meth c D cA ad cX10_leastOther 4 RX10 (some .int) := C
  refine ab_weak (lv' := [some (.inr (.inr (0, 0))), some (.inl x1), some (.inl x2), none]) ⟨.inr rfl, ⟨.inr rfl, ⟨.inr rfl, ⟨.inl rfl, trivial⟩⟩⟩⟩ ?_
  refine ab_iconst C dX10_leastOther_0 (v := 0) rfl ?_
  refine ab_istore_n C dX10_leastOther_1 (Nat.le_of_ble_eq_true rfl) ?_
  refine ab_weak (lv' := [some (.inr (.inr (0, 0))), some (.inl x1), some (.inl x2), some (.inl 0)]) ⟨.inr rfl, ⟨.inr rfl, ⟨.inr rfl, ⟨.inr rfl, trivial⟩⟩⟩⟩ ?_
  exact gX10_leastOther_b2 C _ ab_N _ _ _ h
end
def fX10_drawn_b37 (σ : ab_S) : Option (Int32 × ab_S) := some ((-1), σ)
def fX10_drawn_b232 (t0 : Int32) (σ : ab_S) : Option (Int32 × ab_S) := some (t0, σ)
def fX10_drawn_b212 (kk63 : Int32 → Int32 → Int32 → Int32 → Int32 → ab_S → Option (Int32 × ab_S)) (v2 : Int32) (v3 : Int32) (v5 : Int32) (v6 : Int32) (t0 : Int32) (t1 : Int32) (σ : ab_S) : Option (Int32 × ab_S) := kk63 v2 v3 (t0 + t1) v5 (v6 + 1) σ
def fX10_drawn_b211 (kk63 : Int32 → Int32 → Int32 → Int32 → Int32 → ab_S → Option (Int32 × ab_S)) (v2 : Int32) (v3 : Int32) (v5 : Int32) (v6 : Int32) (t0 : Int32) (σ : ab_S) : Option (Int32 × ab_S) := fX10_drawn_b212 kk63 v2 v3 v5 v6 t0 0 σ
def fX10_drawn_b185 (kk63 : Int32 → Int32 → Int32 → Int32 → Int32 → ab_S → Option (Int32 × ab_S)) (v2 : Int32) (v3 : Int32) (v4 : Int32) (v6 : Int32) (v7 : Int32) (v8 : Int32) (v9 : Int32) (t0 : Int32) (t1 : Int32) (σ : ab_S) : Option (Int32 × ab_S) := (fX10_isIn v9 v7).bind fun q1 => (if q1 = 0 then (if v8 = v7 then fX10_drawn_b212 kk63 v2 v3 (t0 + t1) v6 v4 1 σ else fX10_drawn_b211 kk63 v2 v3 (t0 + t1) v6 v4 σ) else fX10_drawn_b211 kk63 v2 v3 (t0 + t1) v6 v4 σ)
def fX10_drawn_b166 (kk63 : Int32 → Int32 → Int32 → Int32 → Int32 → ab_S → Option (Int32 × ab_S)) (v2 : Int32) (v3 : Int32) (v4 : Int32) (v5 : Int32) (v6 : Int32) (v7 : Int32) (v9 : Int32) (t0 : Int32) (σ : ab_S) : Option (Int32 × ab_S) := (fX10_isIn v9 v7).bind fun q1 => (if q1 = 0 then fX10_drawn_b185 kk63 v2 v3 v4 v6 v7 t0 v9 v5 0 σ else fX10_drawn_b185 kk63 v2 v3 v4 v6 v7 t0 v9 v5 1 σ)
def fX10_drawn_b137 (kk63 : Int32 → Int32 → Int32 → Int32 → Int32 → ab_S → Option (Int32 × ab_S)) (kk90 : Int32 → Int32 → Int32 → Int32 → Int32 → Int32 → Int32 → Int32 → Int32 → ab_S → Option (Int32 × ab_S)) (v2 : Int32) (v3 : Int32) (v4 : Int32) (v5 : Int32) (v6 : Int32) (v7 : Int32) (v9 : Int32) (v10 : Int32) (t0 : Int32) (σ : ab_S) : Option (Int32 × ab_S) := kk90 v2 v3 v4 v5 v6 v7 t0 v9 (v10 + 1) σ
def fX10_drawn_b90_o (kk63 : Int32 → Int32 → Int32 → Int32 → Int32 → ab_S → Option (Int32 × ab_S)) (kk90 : Int32 → Int32 → Int32 → Int32 → Int32 → Int32 → Int32 → Int32 → Int32 → ab_S → Option (Int32 × ab_S)) (v2 : Int32) (v3 : Int32) (v4 : Int32) (v5 : Int32) (v6 : Int32) (v7 : Int32) (v8 : Int32) (v9 : Int32) (v10 : Int32) (σ : ab_S) : Option (Int32 × ab_S) := (if ab_inb 6 7 = true then (if (σ.1 1 0 ((6 : Int32).toNatClampNeg)) ≤ v10 then (if (ab_mod v2 10) = 1 then (fX10_leastOther v8 v9 σ).bind fun q4 => fX10_drawn_b166 kk63 v2 v3 v4 v5 v6 v7 v9 q4 σ else fX10_drawn_b166 kk63 v2 v3 v4 v5 v6 v7 v9 v8 σ) else (fX10_drawnOpen v7 v8 v9 v10 σ).bind fun q5 => (if (ab_mod v2 10) = 2 then (fX10_leastOther v8 q5.1 q5.2).bind fun q7 => fX10_drawn_b137 kk63 kk90 v2 v3 v4 v5 v6 v7 q5.1 v10 q7 q5.2 else fX10_drawn_b137 kk63 kk90 v2 v3 v4 v5 v6 v7 q5.1 v10 v8 q5.2)) else none)
def fX10_drawn_b90 (kk63 : Int32 → Int32 → Int32 → Int32 → Int32 → ab_S → Option (Int32 × ab_S)) : Nat → Int32 → Int32 → Int32 → Int32 → Int32 → Int32 → Int32 → Int32 → Int32 → ab_S → Option (Int32 × ab_S)
  | 0 => fun _ _ _ _ _ _ _ _ _ _ => none
  | n + 1 => fX10_drawn_b90_o kk63 (fX10_drawn_b90 kk63 n)
def fX10_drawn_b63_o (kk63 : Int32 → Int32 → Int32 → Int32 → Int32 → ab_S → Option (Int32 × ab_S)) (v2 : Int32) (v3 : Int32) (v4 : Int32) (v5 : Int32) (v6 : Int32) (σ : ab_S) : Option (Int32 × ab_S) := (if (v2 / 10) ≤ v6 then (if v3 = 0 then fX10_drawn_b232 v4 σ else fX10_drawn_b232 v5 σ) else (fX10_drawnCow σ).bind fun q3 => fX10_drawn_b90 kk63 ab_N v2 v3 v4 v5 v6 q3.1 (q3.2.1 0 0 8) 0 0 q3.2)
def fX10_drawn_b63 : Nat → Int32 → Int32 → Int32 → Int32 → Int32 → ab_S → Option (Int32 × ab_S)
  | 0 => fun _ _ _ _ _ _ => none
  | n + 1 => fX10_drawn_b63_o  (fX10_drawn_b63 n)
def fX10_drawn (x1 : Int32) (x2 : Int32) (x3 : Int32) (σ : ab_S) : Option (Int32 × ab_S) := (if x2 < 0 then fX10_drawn_b37 σ else (fX10_within ((x2 / 10 : Int32).toInt64) 1 50).bind fun q2 => (if q2 = 0 then fX10_drawn_b37 σ else (if 2 < (ab_mod x2 10) then fX10_drawn_b37 σ else (fX10_within ((x3 : Int32).toInt64) 0 1).bind fun q5 => (if q5 = 0 then fX10_drawn_b37 σ else (fX10_allWeights σ).bind fun q7 => (if q7 = 0 then some ((-5), σ) else ab_k (ab_si σ 0 0 26 x1) fun σ9 => fX10_drawn_b63 ab_N x2 x3 0 0 0 σ9)))))
section
variable {p : Program} {l : Launch} {e : Env} {s : State} {m : MethodId} {args : Array Value} {below : List Frame} {meth : Method} {c : Code} {D : va_G} {cA : Nat → ClassId} {ad : Nat → Nat → Nat}
set_option maxRecDepth 100000 in
set_option maxHeartbeats 4000000 in
theorem gX10_drawn_b37 {R : (Int32 × ab_S)} (C : ab_C yM p s m args meth c D cA ad cX10_drawn 11 RX10 (some .int)) (σ : ab_S) (h : fX10_drawn_b37 σ = some R) : ab_G yM p l e s m args below meth c D cA ad 11 70 (some (.inl R.1)) R.2 37 [none, none, none, none, none, none, none, none, none, none, none] [] σ := by
  refine ab_iconst C dX10_drawn_37 (v := (-1)) rfl ?_
  obtain rfl := Option.some.inj h
  exact ab_iret C dX10_drawn_38
set_option maxRecDepth 100000 in
set_option maxHeartbeats 4000000 in
theorem gX10_drawn_b232 {R : (Int32 × ab_S)} (C : ab_C yM p s m args meth c D cA ad cX10_drawn 11 RX10 (some .int)) (t0 : Int32) (σ : ab_S) (h : fX10_drawn_b232 t0 σ = some R) : ab_G yM p l e s m args below meth c D cA ad 11 70 (some (.inl R.1)) R.2 232 [none, none, none, none, none, none, none, none, none, none, none] [.inl t0] σ := by
  obtain rfl := Option.some.inj h
  exact ab_iret C dX10_drawn_232
set_option maxRecDepth 100000 in
set_option maxHeartbeats 4000000 in
theorem gX10_drawn_b212 {R : (Int32 × ab_S)} (C : ab_C yM p s m args meth c D cA ad cX10_drawn 11 RX10 (some .int)) {kk63 : Int32 → Int32 → Int32 → Int32 → Int32 → ab_S → Option (Int32 × ab_S)} (hk63 : ∀ (v2 : Int32) (v3 : Int32) (v4 : Int32) (v5 : Int32) (v6 : Int32) (σ : ab_S), kk63 v2 v3 v4 v5 v6 σ = some R → ab_G yM p l e s m args below meth c D cA ad 11 70 (some (.inl R.1)) R.2 63 [some (.inr (.inr (0, 0))), none, some (.inl v2), some (.inl v3), some (.inl v4), some (.inl v5), some (.inl v6), none, none, none, none] [] σ) (v2 : Int32) (v3 : Int32) (v5 : Int32) (v6 : Int32) (t0 : Int32) (t1 : Int32) (σ : ab_S) (h : fX10_drawn_b212 kk63 v2 v3 v5 v6 t0 t1 σ = some R) : ab_G yM p l e s m args below meth c D cA ad 11 70 (some (.inl R.1)) R.2 212 [some (.inr (.inr (0, 0))), none, some (.inl v2), some (.inl v3), none, some (.inl v5), some (.inl v6), none, none, none, none] [.inl t1, .inl t0] σ := by
  refine ab_iadd C dX10_drawn_212  ?_
  refine ab_istore C dX10_drawn_213 (Nat.le_of_ble_eq_true rfl) ?_
  refine ab_iinc C dX10_drawn_215 rfl (v := 1) rfl (Nat.le_of_ble_eq_true rfl) ?_
  refine ab_goto C (tgt := 63) dX10_drawn_218 (by decide) ?_
  refine ab_weak (lv' := [some (.inr (.inr (0, 0))), none, some (.inl v2), some (.inl v3), some (.inl (t0 + t1)), some (.inl v5), some (.inl (v6 + 1)), none, none, none, none]) ⟨.inr rfl, ⟨.inl rfl, ⟨.inr rfl, ⟨.inr rfl, ⟨.inr rfl, ⟨.inr rfl, ⟨.inr rfl, ⟨.inl rfl, ⟨.inl rfl, ⟨.inl rfl, ⟨.inl rfl, trivial⟩⟩⟩⟩⟩⟩⟩⟩⟩⟩⟩ ?_
  exact hk63 _ _ _ _ _ _ h
set_option maxRecDepth 100000 in
set_option maxHeartbeats 4000000 in
theorem gX10_drawn_b211 {R : (Int32 × ab_S)} (C : ab_C yM p s m args meth c D cA ad cX10_drawn 11 RX10 (some .int)) {kk63 : Int32 → Int32 → Int32 → Int32 → Int32 → ab_S → Option (Int32 × ab_S)} (hk63 : ∀ (v2 : Int32) (v3 : Int32) (v4 : Int32) (v5 : Int32) (v6 : Int32) (σ : ab_S), kk63 v2 v3 v4 v5 v6 σ = some R → ab_G yM p l e s m args below meth c D cA ad 11 70 (some (.inl R.1)) R.2 63 [some (.inr (.inr (0, 0))), none, some (.inl v2), some (.inl v3), some (.inl v4), some (.inl v5), some (.inl v6), none, none, none, none] [] σ) (v2 : Int32) (v3 : Int32) (v5 : Int32) (v6 : Int32) (t0 : Int32) (σ : ab_S) (h : fX10_drawn_b211 kk63 v2 v3 v5 v6 t0 σ = some R) : ab_G yM p l e s m args below meth c D cA ad 11 70 (some (.inl R.1)) R.2 211 [some (.inr (.inr (0, 0))), none, some (.inl v2), some (.inl v3), none, some (.inl v5), some (.inl v6), none, none, none, none] [.inl t0] σ := by
  refine ab_iconst C dX10_drawn_211 (v := 0) rfl ?_
  refine ab_weak (lv' := [some (.inr (.inr (0, 0))), none, some (.inl v2), some (.inl v3), none, some (.inl v5), some (.inl v6), none, none, none, none]) ⟨.inr rfl, ⟨.inl rfl, ⟨.inr rfl, ⟨.inr rfl, ⟨.inl rfl, ⟨.inr rfl, ⟨.inr rfl, ⟨.inl rfl, ⟨.inl rfl, ⟨.inl rfl, ⟨.inl rfl, trivial⟩⟩⟩⟩⟩⟩⟩⟩⟩⟩⟩ ?_
  exact gX10_drawn_b212 C hk63 _ _ _ _ _ _ _ h
set_option maxRecDepth 100000 in
set_option maxHeartbeats 4000000 in
theorem gX10_drawn_b185 {R : (Int32 × ab_S)} (C : ab_C yM p s m args meth c D cA ad cX10_drawn 11 RX10 (some .int)) {kk63 : Int32 → Int32 → Int32 → Int32 → Int32 → ab_S → Option (Int32 × ab_S)} (hk63 : ∀ (v2 : Int32) (v3 : Int32) (v4 : Int32) (v5 : Int32) (v6 : Int32) (σ : ab_S), kk63 v2 v3 v4 v5 v6 σ = some R → ab_G yM p l e s m args below meth c D cA ad 11 70 (some (.inl R.1)) R.2 63 [some (.inr (.inr (0, 0))), none, some (.inl v2), some (.inl v3), some (.inl v4), some (.inl v5), some (.inl v6), none, none, none, none] [] σ) (v2 : Int32) (v3 : Int32) (v4 : Int32) (v6 : Int32) (v7 : Int32) (v8 : Int32) (v9 : Int32) (t0 : Int32) (t1 : Int32) (σ : ab_S) (h : fX10_drawn_b185 kk63 v2 v3 v4 v6 v7 v8 v9 t0 t1 σ = some R) : ab_G yM p l e s m args below meth c D cA ad 11 70 (some (.inl R.1)) R.2 185 [some (.inr (.inr (0, 0))), none, some (.inl v2), some (.inl v3), some (.inl v4), none, some (.inl v6), some (.inl v7), some (.inl v8), some (.inl v9), none] [.inl t1, .inl t0] σ := by
  refine ab_iadd C dX10_drawn_185  ?_
  refine ab_istore C dX10_drawn_186 (Nat.le_of_ble_eq_true rfl) ?_
  refine ab_iload C dX10_drawn_188 rfl ?_
  refine ab_iload C dX10_drawn_190 rfl ?_
  refine ab_iload C dX10_drawn_192 rfl ?_
  obtain ⟨q1, hq1, h⟩ := ab_bind h
  refine ab_invS1 C dX10_drawn_194 mlX10_138 ysX10_isIn (tX10_isIn l _ _ _ hq1) (Nat.le_of_ble_eq_true rfl) (Nat.le_of_ble_eq_true rfl) rfl (Nat.le_of_ble_eq_true rfl) ?_
  refine ab_if_ne C (tgt := 211) dX10_drawn_197 (by decide) (fun hc2 => ?_) (fun hc2 => ?_)
  · replace h := ab_neg hc2 h
    refine ab_weak (lv' := [some (.inr (.inr (0, 0))), none, some (.inl v2), some (.inl v3), none, some (.inl (t0 + t1)), some (.inl v6), none, none, none, none]) ⟨.inr rfl, ⟨.inl rfl, ⟨.inr rfl, ⟨.inr rfl, ⟨.inl rfl, ⟨.inr rfl, ⟨.inr rfl, ⟨.inl rfl, ⟨.inl rfl, ⟨.inl rfl, ⟨.inl rfl, trivial⟩⟩⟩⟩⟩⟩⟩⟩⟩⟩⟩ ?_
    exact gX10_drawn_b211 C hk63 _ _ _ _ _ _ h
  · replace h := ab_pos hc2 h
    refine ab_iload C dX10_drawn_200 rfl ?_
    refine ab_iload C dX10_drawn_202 rfl ?_
    refine ab_icmp_ne C (tgt := 211) dX10_drawn_204 (by decide) (fun hc3 => ?_) (fun hc3 => ?_)
    · replace h := ab_neg hc3 h
      refine ab_weak (lv' := [some (.inr (.inr (0, 0))), none, some (.inl v2), some (.inl v3), none, some (.inl (t0 + t1)), some (.inl v6), none, none, none, none]) ⟨.inr rfl, ⟨.inl rfl, ⟨.inr rfl, ⟨.inr rfl, ⟨.inl rfl, ⟨.inr rfl, ⟨.inr rfl, ⟨.inl rfl, ⟨.inl rfl, ⟨.inl rfl, ⟨.inl rfl, trivial⟩⟩⟩⟩⟩⟩⟩⟩⟩⟩⟩ ?_
      exact gX10_drawn_b211 C hk63 _ _ _ _ _ _ h
    · replace h := ab_pos hc3 h
      refine ab_iconst C dX10_drawn_207 (v := 1) rfl ?_
      refine ab_goto C (tgt := 212) dX10_drawn_208 (by decide) ?_
      refine ab_weak (lv' := [some (.inr (.inr (0, 0))), none, some (.inl v2), some (.inl v3), none, some (.inl (t0 + t1)), some (.inl v6), none, none, none, none]) ⟨.inr rfl, ⟨.inl rfl, ⟨.inr rfl, ⟨.inr rfl, ⟨.inl rfl, ⟨.inr rfl, ⟨.inr rfl, ⟨.inl rfl, ⟨.inl rfl, ⟨.inl rfl, ⟨.inl rfl, trivial⟩⟩⟩⟩⟩⟩⟩⟩⟩⟩⟩ ?_
      exact gX10_drawn_b212 C hk63 _ _ _ _ _ _ _ h
set_option maxRecDepth 100000 in
set_option maxHeartbeats 4000000 in
theorem gX10_drawn_b166 {R : (Int32 × ab_S)} (C : ab_C yM p s m args meth c D cA ad cX10_drawn 11 RX10 (some .int)) {kk63 : Int32 → Int32 → Int32 → Int32 → Int32 → ab_S → Option (Int32 × ab_S)} (hk63 : ∀ (v2 : Int32) (v3 : Int32) (v4 : Int32) (v5 : Int32) (v6 : Int32) (σ : ab_S), kk63 v2 v3 v4 v5 v6 σ = some R → ab_G yM p l e s m args below meth c D cA ad 11 70 (some (.inl R.1)) R.2 63 [some (.inr (.inr (0, 0))), none, some (.inl v2), some (.inl v3), some (.inl v4), some (.inl v5), some (.inl v6), none, none, none, none] [] σ) (v2 : Int32) (v3 : Int32) (v4 : Int32) (v5 : Int32) (v6 : Int32) (v7 : Int32) (v9 : Int32) (t0 : Int32) (σ : ab_S) (h : fX10_drawn_b166 kk63 v2 v3 v4 v5 v6 v7 v9 t0 σ = some R) : ab_G yM p l e s m args below meth c D cA ad 11 70 (some (.inl R.1)) R.2 166 [some (.inr (.inr (0, 0))), none, some (.inl v2), some (.inl v3), some (.inl v4), some (.inl v5), some (.inl v6), some (.inl v7), none, some (.inl v9), none] [.inl t0] σ := by
  refine ab_istore C dX10_drawn_166 (Nat.le_of_ble_eq_true rfl) ?_
  refine ab_iload C dX10_drawn_168 rfl ?_
  refine ab_iload C dX10_drawn_170 rfl ?_
  refine ab_iload C dX10_drawn_172 rfl ?_
  obtain ⟨q1, hq1, h⟩ := ab_bind h
  refine ab_invS1 C dX10_drawn_174 mlX10_138 ysX10_isIn (tX10_isIn l _ _ _ hq1) (Nat.le_of_ble_eq_true rfl) (Nat.le_of_ble_eq_true rfl) rfl (Nat.le_of_ble_eq_true rfl) ?_
  refine ab_if_eq C (tgt := 184) dX10_drawn_177 (by decide) (fun hc2 => ?_) (fun hc2 => ?_)
  · replace h := ab_pos hc2 h
    refine ab_iconst C dX10_drawn_184 (v := 0) rfl ?_
    refine ab_weak (lv' := [some (.inr (.inr (0, 0))), none, some (.inl v2), some (.inl v3), some (.inl v4), none, some (.inl v6), some (.inl v7), some (.inl t0), some (.inl v9), none]) ⟨.inr rfl, ⟨.inl rfl, ⟨.inr rfl, ⟨.inr rfl, ⟨.inr rfl, ⟨.inl rfl, ⟨.inr rfl, ⟨.inr rfl, ⟨.inr rfl, ⟨.inr rfl, ⟨.inl rfl, trivial⟩⟩⟩⟩⟩⟩⟩⟩⟩⟩⟩ ?_
    exact gX10_drawn_b185 C hk63 _ _ _ _ _ _ _ _ _ _ h
  · replace h := ab_neg hc2 h
    refine ab_iconst C dX10_drawn_180 (v := 1) rfl ?_
    refine ab_goto C (tgt := 185) dX10_drawn_181 (by decide) ?_
    refine ab_weak (lv' := [some (.inr (.inr (0, 0))), none, some (.inl v2), some (.inl v3), some (.inl v4), none, some (.inl v6), some (.inl v7), some (.inl t0), some (.inl v9), none]) ⟨.inr rfl, ⟨.inl rfl, ⟨.inr rfl, ⟨.inr rfl, ⟨.inr rfl, ⟨.inl rfl, ⟨.inr rfl, ⟨.inr rfl, ⟨.inr rfl, ⟨.inr rfl, ⟨.inl rfl, trivial⟩⟩⟩⟩⟩⟩⟩⟩⟩⟩⟩ ?_
    exact gX10_drawn_b185 C hk63 _ _ _ _ _ _ _ _ _ _ h
set_option maxRecDepth 100000 in
set_option maxHeartbeats 4000000 in
theorem gX10_drawn_b137 {R : (Int32 × ab_S)} (C : ab_C yM p s m args meth c D cA ad cX10_drawn 11 RX10 (some .int)) {kk63 : Int32 → Int32 → Int32 → Int32 → Int32 → ab_S → Option (Int32 × ab_S)} (hk63 : ∀ (v2 : Int32) (v3 : Int32) (v4 : Int32) (v5 : Int32) (v6 : Int32) (σ : ab_S), kk63 v2 v3 v4 v5 v6 σ = some R → ab_G yM p l e s m args below meth c D cA ad 11 70 (some (.inl R.1)) R.2 63 [some (.inr (.inr (0, 0))), none, some (.inl v2), some (.inl v3), some (.inl v4), some (.inl v5), some (.inl v6), none, none, none, none] [] σ) {kk90 : Int32 → Int32 → Int32 → Int32 → Int32 → Int32 → Int32 → Int32 → Int32 → ab_S → Option (Int32 × ab_S)} (hk90 : ∀ (v2 : Int32) (v3 : Int32) (v4 : Int32) (v5 : Int32) (v6 : Int32) (v7 : Int32) (v8 : Int32) (v9 : Int32) (v10 : Int32) (σ : ab_S), kk90 v2 v3 v4 v5 v6 v7 v8 v9 v10 σ = some R → ab_G yM p l e s m args below meth c D cA ad 11 70 (some (.inl R.1)) R.2 90 [some (.inr (.inr (0, 0))), none, some (.inl v2), some (.inl v3), some (.inl v4), some (.inl v5), some (.inl v6), some (.inl v7), some (.inl v8), some (.inl v9), some (.inl v10)] [] σ) (v2 : Int32) (v3 : Int32) (v4 : Int32) (v5 : Int32) (v6 : Int32) (v7 : Int32) (v9 : Int32) (v10 : Int32) (t0 : Int32) (σ : ab_S) (h : fX10_drawn_b137 kk63 kk90 v2 v3 v4 v5 v6 v7 v9 v10 t0 σ = some R) : ab_G yM p l e s m args below meth c D cA ad 11 70 (some (.inl R.1)) R.2 137 [some (.inr (.inr (0, 0))), none, some (.inl v2), some (.inl v3), some (.inl v4), some (.inl v5), some (.inl v6), some (.inl v7), none, some (.inl v9), some (.inl v10)] [.inl t0] σ := by
  refine ab_istore C dX10_drawn_137 (Nat.le_of_ble_eq_true rfl) ?_
  refine ab_iinc C dX10_drawn_139 rfl (v := 1) rfl (Nat.le_of_ble_eq_true rfl) ?_
  refine ab_goto C (tgt := 90) dX10_drawn_142 (by decide) ?_
  refine ab_weak (lv' := [some (.inr (.inr (0, 0))), none, some (.inl v2), some (.inl v3), some (.inl v4), some (.inl v5), some (.inl v6), some (.inl v7), some (.inl t0), some (.inl v9), some (.inl (v10 + 1))]) ⟨.inr rfl, ⟨.inl rfl, ⟨.inr rfl, ⟨.inr rfl, ⟨.inr rfl, ⟨.inr rfl, ⟨.inr rfl, ⟨.inr rfl, ⟨.inr rfl, ⟨.inr rfl, ⟨.inr rfl, trivial⟩⟩⟩⟩⟩⟩⟩⟩⟩⟩⟩ ?_
  exact hk90 _ _ _ _ _ _ _ _ _ _ h
set_option maxRecDepth 100000 in
set_option maxHeartbeats 4000000 in
theorem gX10_drawn_b90_o {R : (Int32 × ab_S)} (C : ab_C yM p s m args meth c D cA ad cX10_drawn 11 RX10 (some .int)) {kk63 : Int32 → Int32 → Int32 → Int32 → Int32 → ab_S → Option (Int32 × ab_S)} (hk63 : ∀ (v2 : Int32) (v3 : Int32) (v4 : Int32) (v5 : Int32) (v6 : Int32) (σ : ab_S), kk63 v2 v3 v4 v5 v6 σ = some R → ab_G yM p l e s m args below meth c D cA ad 11 70 (some (.inl R.1)) R.2 63 [some (.inr (.inr (0, 0))), none, some (.inl v2), some (.inl v3), some (.inl v4), some (.inl v5), some (.inl v6), none, none, none, none] [] σ) {kk90 : Int32 → Int32 → Int32 → Int32 → Int32 → Int32 → Int32 → Int32 → Int32 → ab_S → Option (Int32 × ab_S)} (hk90 : ∀ (v2 : Int32) (v3 : Int32) (v4 : Int32) (v5 : Int32) (v6 : Int32) (v7 : Int32) (v8 : Int32) (v9 : Int32) (v10 : Int32) (σ : ab_S), kk90 v2 v3 v4 v5 v6 v7 v8 v9 v10 σ = some R → ab_G yM p l e s m args below meth c D cA ad 11 70 (some (.inl R.1)) R.2 90 [some (.inr (.inr (0, 0))), none, some (.inl v2), some (.inl v3), some (.inl v4), some (.inl v5), some (.inl v6), some (.inl v7), some (.inl v8), some (.inl v9), some (.inl v10)] [] σ) (v2 : Int32) (v3 : Int32) (v4 : Int32) (v5 : Int32) (v6 : Int32) (v7 : Int32) (v8 : Int32) (v9 : Int32) (v10 : Int32) (σ : ab_S) (h : fX10_drawn_b90_o kk63 kk90 v2 v3 v4 v5 v6 v7 v8 v9 v10 σ = some R) : ab_G yM p l e s m args below meth c D cA ad 11 70 (some (.inl R.1)) R.2 90 [some (.inr (.inr (0, 0))), none, some (.inl v2), some (.inl v3), some (.inl v4), some (.inl v5), some (.inl v6), some (.inl v7), some (.inl v8), some (.inl v9), some (.inl v10)] [] σ := by
  refine ab_iload C dX10_drawn_90 rfl ?_
  refine ab_aload_n C dX10_drawn_92 rfl ?_
  refine ab_getR C dX10_drawn_93 flX10_11 rkM_0 rfl mmM_0 ?_
  refine ab_bipush C dX10_drawn_96 (v := 6) rfl ?_
  obtain ⟨hg1, h⟩ := ab_grd h
  refine ab_iald C dX10_drawn_98 rkM_1 mmM_1 hg1 ?_
  refine ab_icmp_ge C (tgt := 145) dX10_drawn_99 (by decide) (fun hc2 => ?_) (fun hc2 => ?_)
  · replace h := ab_pos hc2 h
    refine ab_iload_n C dX10_drawn_145 rfl ?_
    refine ab_bipush C dX10_drawn_146 (v := 10) rfl ?_
    refine ab_irem C dX10_drawn_148 (by decide) ?_
    refine ab_iconst C dX10_drawn_149 (v := 1) rfl ?_
    refine ab_icmp_ne C (tgt := 164) dX10_drawn_150 (by decide) (fun hc3 => ?_) (fun hc3 => ?_)
    · replace h := ab_neg hc3 h
      refine ab_iload C dX10_drawn_164 rfl ?_
      refine ab_weak (lv' := [some (.inr (.inr (0, 0))), none, some (.inl v2), some (.inl v3), some (.inl v4), some (.inl v5), some (.inl v6), some (.inl v7), none, some (.inl v9), none]) ⟨.inr rfl, ⟨.inl rfl, ⟨.inr rfl, ⟨.inr rfl, ⟨.inr rfl, ⟨.inr rfl, ⟨.inr rfl, ⟨.inr rfl, ⟨.inl rfl, ⟨.inr rfl, ⟨.inl rfl, trivial⟩⟩⟩⟩⟩⟩⟩⟩⟩⟩⟩ ?_
      exact gX10_drawn_b166 C hk63 _ _ _ _ _ _ _ _ _ h
    · replace h := ab_pos hc3 h
      refine ab_aload_n C dX10_drawn_153 rfl ?_
      refine ab_iload C dX10_drawn_154 rfl ?_
      refine ab_iload C dX10_drawn_156 rfl ?_
      obtain ⟨q4, hq4, h⟩ := ab_bind h
      refine ab_inv1 C dX10_drawn_158 mlX10_240 yvX10_leastOther rkM_0 ⟨_, _, rfl⟩ mmM_0 (tX10_leastOther l _ _ _ hq4) (Nat.le_of_ble_eq_true rfl) (Nat.le_of_ble_eq_true rfl) rfl (Nat.le_of_ble_eq_true rfl) ?_
      refine ab_goto C (tgt := 166) dX10_drawn_161 (by decide) ?_
      refine ab_weak (lv' := [some (.inr (.inr (0, 0))), none, some (.inl v2), some (.inl v3), some (.inl v4), some (.inl v5), some (.inl v6), some (.inl v7), none, some (.inl v9), none]) ⟨.inr rfl, ⟨.inl rfl, ⟨.inr rfl, ⟨.inr rfl, ⟨.inr rfl, ⟨.inr rfl, ⟨.inr rfl, ⟨.inr rfl, ⟨.inl rfl, ⟨.inr rfl, ⟨.inl rfl, trivial⟩⟩⟩⟩⟩⟩⟩⟩⟩⟩⟩ ?_
      exact gX10_drawn_b166 C hk63 _ _ _ _ _ _ _ _ _ h
  · replace h := ab_neg hc2 h
    refine ab_aload_n C dX10_drawn_102 rfl ?_
    refine ab_iload C dX10_drawn_103 rfl ?_
    refine ab_iload C dX10_drawn_105 rfl ?_
    refine ab_iload C dX10_drawn_107 rfl ?_
    refine ab_iload C dX10_drawn_109 rfl ?_
    obtain ⟨q5, hq5, h⟩ := ab_bind h
    refine ab_inv1 C dX10_drawn_111 mlX10_316 yvX10_drawnOpen rkM_0 ⟨_, _, rfl⟩ mmM_0 (tX10_drawnOpen l _ _ _ _ _ hq5) (Nat.le_of_ble_eq_true rfl) (Nat.le_of_ble_eq_true rfl) rfl (Nat.le_of_ble_eq_true rfl) ?_
    refine ab_istore C dX10_drawn_114 (Nat.le_of_ble_eq_true rfl) ?_
    refine ab_iload_n C dX10_drawn_116 rfl ?_
    refine ab_bipush C dX10_drawn_117 (v := 10) rfl ?_
    refine ab_irem C dX10_drawn_119 (by decide) ?_
    refine ab_iconst C dX10_drawn_120 (v := 2) rfl ?_
    refine ab_icmp_ne C (tgt := 135) dX10_drawn_121 (by decide) (fun hc6 => ?_) (fun hc6 => ?_)
    · replace h := ab_neg hc6 h
      refine ab_iload C dX10_drawn_135 rfl ?_
      refine ab_weak (lv' := [some (.inr (.inr (0, 0))), none, some (.inl v2), some (.inl v3), some (.inl v4), some (.inl v5), some (.inl v6), some (.inl v7), none, some (.inl q5.1), some (.inl v10)]) ⟨.inr rfl, ⟨.inl rfl, ⟨.inr rfl, ⟨.inr rfl, ⟨.inr rfl, ⟨.inr rfl, ⟨.inr rfl, ⟨.inr rfl, ⟨.inl rfl, ⟨.inr rfl, ⟨.inr rfl, trivial⟩⟩⟩⟩⟩⟩⟩⟩⟩⟩⟩ ?_
      exact gX10_drawn_b137 C hk63 hk90 _ _ _ _ _ _ _ _ _ _ h
    · replace h := ab_pos hc6 h
      refine ab_aload_n C dX10_drawn_124 rfl ?_
      refine ab_iload C dX10_drawn_125 rfl ?_
      refine ab_iload C dX10_drawn_127 rfl ?_
      obtain ⟨q7, hq7, h⟩ := ab_bind h
      refine ab_inv1 C dX10_drawn_129 mlX10_240 yvX10_leastOther rkM_0 ⟨_, _, rfl⟩ mmM_0 (tX10_leastOther l _ _ _ hq7) (Nat.le_of_ble_eq_true rfl) (Nat.le_of_ble_eq_true rfl) rfl (Nat.le_of_ble_eq_true rfl) ?_
      refine ab_goto C (tgt := 137) dX10_drawn_132 (by decide) ?_
      refine ab_weak (lv' := [some (.inr (.inr (0, 0))), none, some (.inl v2), some (.inl v3), some (.inl v4), some (.inl v5), some (.inl v6), some (.inl v7), none, some (.inl q5.1), some (.inl v10)]) ⟨.inr rfl, ⟨.inl rfl, ⟨.inr rfl, ⟨.inr rfl, ⟨.inr rfl, ⟨.inr rfl, ⟨.inr rfl, ⟨.inr rfl, ⟨.inl rfl, ⟨.inr rfl, ⟨.inr rfl, trivial⟩⟩⟩⟩⟩⟩⟩⟩⟩⟩⟩ ?_
      exact gX10_drawn_b137 C hk63 hk90 _ _ _ _ _ _ _ _ _ _ h
theorem gX10_drawn_b90 {R : (Int32 × ab_S)} (C : ab_C yM p s m args meth c D cA ad cX10_drawn 11 RX10 (some .int)) {kk63 : Int32 → Int32 → Int32 → Int32 → Int32 → ab_S → Option (Int32 × ab_S)} (hk63 : ∀ (v2 : Int32) (v3 : Int32) (v4 : Int32) (v5 : Int32) (v6 : Int32) (σ : ab_S), kk63 v2 v3 v4 v5 v6 σ = some R → ab_G yM p l e s m args below meth c D cA ad 11 70 (some (.inl R.1)) R.2 63 [some (.inr (.inr (0, 0))), none, some (.inl v2), some (.inl v3), some (.inl v4), some (.inl v5), some (.inl v6), none, none, none, none] [] σ) : ∀ (j : Nat) (v2 : Int32) (v3 : Int32) (v4 : Int32) (v5 : Int32) (v6 : Int32) (v7 : Int32) (v8 : Int32) (v9 : Int32) (v10 : Int32) (σ : ab_S), fX10_drawn_b90 kk63 j v2 v3 v4 v5 v6 v7 v8 v9 v10 σ = some R → ab_G yM p l e s m args below meth c D cA ad 11 70 (some (.inl R.1)) R.2 90 [some (.inr (.inr (0, 0))), none, some (.inl v2), some (.inl v3), some (.inl v4), some (.inl v5), some (.inl v6), some (.inl v7), some (.inl v8), some (.inl v9), some (.inl v10)] [] σ := by
  intro j
  induction j with
  | zero => intro v2 v3 v4 v5 v6 v7 v8 v9 v10 σ  h; cases h
  | succ j ih => intro v2 v3 v4 v5 v6 v7 v8 v9 v10 σ  h; exact gX10_drawn_b90_o C hk63 ih _ _ _ _ _ _ _ _ _ _ h
set_option maxRecDepth 100000 in
set_option maxHeartbeats 4000000 in
theorem gX10_drawn_b63_o {R : (Int32 × ab_S)} (C : ab_C yM p s m args meth c D cA ad cX10_drawn 11 RX10 (some .int)) {kk63 : Int32 → Int32 → Int32 → Int32 → Int32 → ab_S → Option (Int32 × ab_S)} (hk63 : ∀ (v2 : Int32) (v3 : Int32) (v4 : Int32) (v5 : Int32) (v6 : Int32) (σ : ab_S), kk63 v2 v3 v4 v5 v6 σ = some R → ab_G yM p l e s m args below meth c D cA ad 11 70 (some (.inl R.1)) R.2 63 [some (.inr (.inr (0, 0))), none, some (.inl v2), some (.inl v3), some (.inl v4), some (.inl v5), some (.inl v6), none, none, none, none] [] σ) (v2 : Int32) (v3 : Int32) (v4 : Int32) (v5 : Int32) (v6 : Int32) (σ : ab_S) (h : fX10_drawn_b63_o kk63 v2 v3 v4 v5 v6 σ = some R) : ab_G yM p l e s m args below meth c D cA ad 11 70 (some (.inl R.1)) R.2 63 [some (.inr (.inr (0, 0))), none, some (.inl v2), some (.inl v3), some (.inl v4), some (.inl v5), some (.inl v6), none, none, none, none] [] σ := by
  refine ab_iload C dX10_drawn_63 rfl ?_
  refine ab_iload_n C dX10_drawn_65 rfl ?_
  refine ab_bipush C dX10_drawn_66 (v := 10) rfl ?_
  refine ab_idiv C dX10_drawn_68 (by decide) ?_
  refine ab_icmp_ge C (tgt := 221) dX10_drawn_69 (by decide) (fun hc1 => ?_) (fun hc1 => ?_)
  · replace h := ab_pos hc1 h
    refine ab_iload_n C dX10_drawn_221 rfl ?_
    refine ab_if_ne C (tgt := 230) dX10_drawn_222 (by decide) (fun hc2 => ?_) (fun hc2 => ?_)
    · replace h := ab_neg hc2 h
      refine ab_iload C dX10_drawn_230 rfl ?_
      refine ab_weak (lv' := [none, none, none, none, none, none, none, none, none, none, none]) ⟨.inl rfl, ⟨.inl rfl, ⟨.inl rfl, ⟨.inl rfl, ⟨.inl rfl, ⟨.inl rfl, ⟨.inl rfl, ⟨.inl rfl, ⟨.inl rfl, ⟨.inl rfl, ⟨.inl rfl, trivial⟩⟩⟩⟩⟩⟩⟩⟩⟩⟩⟩ ?_
      exact gX10_drawn_b232 C _ _ h
    · replace h := ab_pos hc2 h
      refine ab_iload C dX10_drawn_225 rfl ?_
      refine ab_goto C (tgt := 232) dX10_drawn_227 (by decide) ?_
      refine ab_weak (lv' := [none, none, none, none, none, none, none, none, none, none, none]) ⟨.inl rfl, ⟨.inl rfl, ⟨.inl rfl, ⟨.inl rfl, ⟨.inl rfl, ⟨.inl rfl, ⟨.inl rfl, ⟨.inl rfl, ⟨.inl rfl, ⟨.inl rfl, ⟨.inl rfl, trivial⟩⟩⟩⟩⟩⟩⟩⟩⟩⟩⟩ ?_
      exact gX10_drawn_b232 C _ _ h
  · replace h := ab_neg hc1 h
    refine ab_aload_n C dX10_drawn_72 rfl ?_
    obtain ⟨q3, hq3, h⟩ := ab_bind h
    refine ab_inv1 C dX10_drawn_73 mlX10_313 yvX10_drawnCow rkM_0 ⟨_, _, rfl⟩ mmM_0 (tX10_drawnCow l _ hq3) (Nat.le_of_ble_eq_true rfl) (Nat.le_of_ble_eq_true rfl) rfl (Nat.le_of_ble_eq_true rfl) ?_
    refine ab_istore C dX10_drawn_76 (Nat.le_of_ble_eq_true rfl) ?_
    refine ab_aload_n C dX10_drawn_78 rfl ?_
    refine ab_getI C dX10_drawn_79 flX10_90 rkM_0 rfl mmM_0 ?_
    refine ab_istore C dX10_drawn_82 (Nat.le_of_ble_eq_true rfl) ?_
    refine ab_iconst C dX10_drawn_84 (v := 0) rfl ?_
    refine ab_istore C dX10_drawn_85 (Nat.le_of_ble_eq_true rfl) ?_
    refine ab_weak (lv' := [some (.inr (.inr (0, 0))), none, some (.inl v2), some (.inl v3), some (.inl v4), some (.inl v5), some (.inl v6), some (.inl q3.1), some (.inl (q3.2.1 0 0 8)), some (.inl 0), none]) ⟨.inr rfl, ⟨.inl rfl, ⟨.inr rfl, ⟨.inr rfl, ⟨.inr rfl, ⟨.inr rfl, ⟨.inr rfl, ⟨.inr rfl, ⟨.inr rfl, ⟨.inr rfl, ⟨.inl rfl, trivial⟩⟩⟩⟩⟩⟩⟩⟩⟩⟩⟩ ?_
    refine ab_iconst C dX10_drawn_87 (v := 0) rfl ?_
    refine ab_istore C dX10_drawn_88 (Nat.le_of_ble_eq_true rfl) ?_
    refine ab_weak (lv' := [some (.inr (.inr (0, 0))), none, some (.inl v2), some (.inl v3), some (.inl v4), some (.inl v5), some (.inl v6), some (.inl q3.1), some (.inl (q3.2.1 0 0 8)), some (.inl 0), some (.inl 0)]) ⟨.inr rfl, ⟨.inl rfl, ⟨.inr rfl, ⟨.inr rfl, ⟨.inr rfl, ⟨.inr rfl, ⟨.inr rfl, ⟨.inr rfl, ⟨.inr rfl, ⟨.inr rfl, ⟨.inr rfl, trivial⟩⟩⟩⟩⟩⟩⟩⟩⟩⟩⟩ ?_
    exact gX10_drawn_b90 C hk63 ab_N _ _ _ _ _ _ _ _ _ _ h
theorem gX10_drawn_b63 {R : (Int32 × ab_S)} (C : ab_C yM p s m args meth c D cA ad cX10_drawn 11 RX10 (some .int)) : ∀ (j : Nat) (v2 : Int32) (v3 : Int32) (v4 : Int32) (v5 : Int32) (v6 : Int32) (σ : ab_S), fX10_drawn_b63 j v2 v3 v4 v5 v6 σ = some R → ab_G yM p l e s m args below meth c D cA ad 11 70 (some (.inl R.1)) R.2 63 [some (.inr (.inr (0, 0))), none, some (.inl v2), some (.inl v3), some (.inl v4), some (.inl v5), some (.inl v6), none, none, none, none] [] σ := by
  intro j
  induction j with
  | zero => intro v2 v3 v4 v5 v6 σ  h; cases h
  | succ j ih => intro v2 v3 v4 v5 v6 σ  h; exact gX10_drawn_b63_o C ih _ _ _ _ _ _ h
set_option maxRecDepth 100000 in
set_option maxHeartbeats 4000000 in
theorem tX10_drawn (l : Launch) (x1 : Int32) (x2 : Int32) (x3 : Int32) (σ : ab_S) {R : (Int32 × ab_S)} (h : fX10_drawn x1 x2 x3 σ = some R) : ab_M l yM yX10_drawn cX10_drawn 11 (some .int) 70 [.inr (.inr (0, 0)), .inl x1, .inl x2, .inl x3] σ (some (.inl R.1)) R.2 := by
  refine ab_M_intro ndM (by decide) (Nat.le_of_ble_eq_true rfl) ?_
  intro p e s m args below meth c D cA ad C
  have C : ab_C yM p s m args meth c D cA ad cX10_drawn 11 RX10 (some .int) := C
  refine ab_weak (lv' := [some (.inr (.inr (0, 0))), some (.inl x1), some (.inl x2), some (.inl x3), none, none, none, none, none, none, none]) ⟨.inr rfl, ⟨.inr rfl, ⟨.inr rfl, ⟨.inr rfl, ⟨.inl rfl, ⟨.inl rfl, ⟨.inl rfl, ⟨.inl rfl, ⟨.inl rfl, ⟨.inl rfl, ⟨.inl rfl, trivial⟩⟩⟩⟩⟩⟩⟩⟩⟩⟩⟩ ?_
  refine ab_iload_n C dX10_drawn_0 rfl ?_
  refine ab_if_lt C (tgt := 37) dX10_drawn_1 (by decide) (fun hc1 => ?_) (fun hc1 => ?_)
  · replace h := ab_pos hc1 h
    refine ab_weak (lv' := [none, none, none, none, none, none, none, none, none, none, none]) ⟨.inl rfl, ⟨.inl rfl, ⟨.inl rfl, ⟨.inl rfl, ⟨.inl rfl, ⟨.inl rfl, ⟨.inl rfl, ⟨.inl rfl, ⟨.inl rfl, ⟨.inl rfl, ⟨.inl rfl, trivial⟩⟩⟩⟩⟩⟩⟩⟩⟩⟩⟩ ?_
    exact gX10_drawn_b37 C _ h
  · replace h := ab_neg hc1 h
    refine ab_iload_n C dX10_drawn_4 rfl ?_
    refine ab_bipush C dX10_drawn_5 (v := 10) rfl ?_
    refine ab_idiv C dX10_drawn_7 (by decide) ?_
    refine ab_i2l C dX10_drawn_8  ?_
    refine ab_lconst C dX10_drawn_9 (v := 1) rfl ?_
    refine ab_ldc2 C dX10_drawn_10 cwX10_311 ?_
    obtain ⟨q2, hq2, h⟩ := ab_bind h
    refine ab_invS1 C dX10_drawn_13 mlX10_105 ysX10_within (tX10_within l _ _ _ _ hq2) (Nat.le_of_ble_eq_true rfl) (Nat.le_of_ble_eq_true rfl) rfl (Nat.le_of_ble_eq_true rfl) ?_
    refine ab_if_eq C (tgt := 37) dX10_drawn_16 (by decide) (fun hc3 => ?_) (fun hc3 => ?_)
    · replace h := ab_pos hc3 h
      refine ab_weak (lv' := [none, none, none, none, none, none, none, none, none, none, none]) ⟨.inl rfl, ⟨.inl rfl, ⟨.inl rfl, ⟨.inl rfl, ⟨.inl rfl, ⟨.inl rfl, ⟨.inl rfl, ⟨.inl rfl, ⟨.inl rfl, ⟨.inl rfl, ⟨.inl rfl, trivial⟩⟩⟩⟩⟩⟩⟩⟩⟩⟩⟩ ?_
      exact gX10_drawn_b37 C _ h
    · replace h := ab_neg hc3 h
      refine ab_iload_n C dX10_drawn_19 rfl ?_
      refine ab_bipush C dX10_drawn_20 (v := 10) rfl ?_
      refine ab_irem C dX10_drawn_22 (by decide) ?_
      refine ab_iconst C dX10_drawn_23 (v := 2) rfl ?_
      refine ab_icmp_gt C (tgt := 37) dX10_drawn_24 (by decide) (fun hc4 => ?_) (fun hc4 => ?_)
      · replace h := ab_pos hc4 h
        refine ab_weak (lv' := [none, none, none, none, none, none, none, none, none, none, none]) ⟨.inl rfl, ⟨.inl rfl, ⟨.inl rfl, ⟨.inl rfl, ⟨.inl rfl, ⟨.inl rfl, ⟨.inl rfl, ⟨.inl rfl, ⟨.inl rfl, ⟨.inl rfl, ⟨.inl rfl, trivial⟩⟩⟩⟩⟩⟩⟩⟩⟩⟩⟩ ?_
        exact gX10_drawn_b37 C _ h
      · replace h := ab_neg hc4 h
        refine ab_iload_n C dX10_drawn_27 rfl ?_
        refine ab_i2l C dX10_drawn_28  ?_
        refine ab_lconst C dX10_drawn_29 (v := 0) rfl ?_
        refine ab_lconst C dX10_drawn_30 (v := 1) rfl ?_
        obtain ⟨q5, hq5, h⟩ := ab_bind h
        refine ab_invS1 C dX10_drawn_31 mlX10_105 ysX10_within (tX10_within l _ _ _ _ hq5) (Nat.le_of_ble_eq_true rfl) (Nat.le_of_ble_eq_true rfl) rfl (Nat.le_of_ble_eq_true rfl) ?_
        refine ab_if_ne C (tgt := 39) dX10_drawn_34 (by decide) (fun hc6 => ?_) (fun hc6 => ?_)
        · replace h := ab_neg hc6 h
          refine ab_aload_n C dX10_drawn_39 rfl ?_
          obtain ⟨q7, hq7, h⟩ := ab_bind h
          refine ab_inv1 C dX10_drawn_40 mlX10_259 yvX10_allWeights rkM_0 ⟨_, _, rfl⟩ mmM_0 (tX10_allWeights l _ hq7) (Nat.le_of_ble_eq_true rfl) (Nat.le_of_ble_eq_true rfl) rfl (Nat.le_of_ble_eq_true rfl) ?_
          refine ab_if_ne C (tgt := 49) dX10_drawn_43 (by decide) (fun hc8 => ?_) (fun hc8 => ?_)
          · replace h := ab_neg hc8 h
            refine ab_aload_n C dX10_drawn_49 rfl ?_
            refine ab_iload_n C dX10_drawn_50 rfl ?_
            refine ab_putI C dX10_drawn_51 fpX10_304 rkM_0 rfl mmM_0 rfl rfl ?_
            refine ab_nmS (fun σ9 eσ9 => ?_)
            replace h := ab_kh eσ9 h
            refine ab_iconst C dX10_drawn_54 (v := 0) rfl ?_
            refine ab_istore C dX10_drawn_55 (Nat.le_of_ble_eq_true rfl) ?_
            refine ab_iconst C dX10_drawn_57 (v := 0) rfl ?_
            refine ab_istore C dX10_drawn_58 (Nat.le_of_ble_eq_true rfl) ?_
            refine ab_iconst C dX10_drawn_60 (v := 0) rfl ?_
            refine ab_istore C dX10_drawn_61 (Nat.le_of_ble_eq_true rfl) ?_
            refine ab_weak (lv' := [some (.inr (.inr (0, 0))), some (.inl x1), some (.inl x2), some (.inl x3), some (.inl 0), some (.inl 0), some (.inl 0), none, none, none, none]) ⟨.inr rfl, ⟨.inr rfl, ⟨.inr rfl, ⟨.inr rfl, ⟨.inr rfl, ⟨.inr rfl, ⟨.inr rfl, ⟨.inl rfl, ⟨.inl rfl, ⟨.inl rfl, ⟨.inl rfl, trivial⟩⟩⟩⟩⟩⟩⟩⟩⟩⟩⟩ ?_
            refine ab_weak (lv' := [some (.inr (.inr (0, 0))), none, some (.inl x2), some (.inl x3), some (.inl 0), some (.inl 0), some (.inl 0), none, none, none, none]) ⟨.inr rfl, ⟨.inl rfl, ⟨.inr rfl, ⟨.inr rfl, ⟨.inr rfl, ⟨.inr rfl, ⟨.inr rfl, ⟨.inl rfl, ⟨.inl rfl, ⟨.inl rfl, ⟨.inl rfl, trivial⟩⟩⟩⟩⟩⟩⟩⟩⟩⟩⟩ ?_
            exact gX10_drawn_b63 C ab_N _ _ _ _ _ _ h
          · replace h := ab_pos hc8 h
            refine ab_bipush C dX10_drawn_46 (v := (-5)) rfl ?_
            obtain rfl := Option.some.inj h
            exact ab_iret C dX10_drawn_48
        · replace h := ab_pos hc6 h
          refine ab_weak (lv' := [none, none, none, none, none, none, none, none, none, none, none]) ⟨.inl rfl, ⟨.inl rfl, ⟨.inl rfl, ⟨.inl rfl, ⟨.inl rfl, ⟨.inl rfl, ⟨.inl rfl, ⟨.inl rfl, ⟨.inl rfl, ⟨.inl rfl, ⟨.inl rfl, trivial⟩⟩⟩⟩⟩⟩⟩⟩⟩⟩⟩ ?_
          exact gX10_drawn_b37 C _ h
end
