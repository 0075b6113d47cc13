def fJ6_bitCount_0f7a4 (x0 : Int32) : Option Int32 := ab_k (((x0 - ((ab_ushr x0 1) &&& 1431655765)) &&& 858993459) + ((ab_ushr (x0 - ((ab_ushr x0 1) &&& 1431655765)) 2) &&& 858993459) : Int32) fun w1 => ab_k (((w1 + (ab_ushr w1 4)) &&& 252645135) + (ab_ushr ((w1 + (ab_ushr w1 4)) &&& 252645135) 8) : Int32) fun w2 => some ((w2 + (ab_ushr w2 16)) &&& 63)
section
variable {p : Program} {l : Launch} {e : Env} {s : State} {m : MethodId} {args : Array Value} {below : List Frame} {meth : Method} {c : Code} {D : va_G} {cA : Nat → ClassId} {ad : Nat → Nat → Nat}
set_option maxRecDepth 100000 in
set_option maxHeartbeats 4000000 in
theorem tJ6_bitCount_0f7a4 (l : Launch) (x0 : Int32) (σ : ab_S) {R : Int32} (h : fJ6_bitCount_0f7a4 x0 = some R) : ab_M l yC yJ6_bitCount_0f7a4 cJ6_bitCount_0f7a4 1 (some .int) 0 [.inl x0] σ (some (.inl R)) σ := by
  refine ab_M_intro ndC (by decide) (Nat.le_of_ble_eq_true rfl) ?_
  intro p e s m args below meth c D cA ad C
  have C : ab_C yC p s m args meth c D cA ad cJ6_bitCount_0f7a4 1 RJ6 (some .int) := C
  refine ab_weak (lv' := [some (.inl x0)]) ⟨.inr rfl, trivial⟩ ?_
  refine ab_iload_n C dJ6_bitCount_0f7a4_0 rfl ?_
  refine ab_iload_n C dJ6_bitCount_0f7a4_1 rfl ?_
  refine ab_iconst C dJ6_bitCount_0f7a4_2 (v := 1) rfl ?_
  refine ab_iushr C dJ6_bitCount_0f7a4_3  ?_
  refine ab_ldcw C dJ6_bitCount_0f7a4_4 cwJ6_265 ?_
  refine ab_iand C dJ6_bitCount_0f7a4_7  ?_
  refine ab_isub C dJ6_bitCount_0f7a4_8  ?_
  refine ab_istore_n C dJ6_bitCount_0f7a4_9 (Nat.le_of_ble_eq_true rfl) ?_
  refine ab_iload_n C dJ6_bitCount_0f7a4_10 rfl ?_
  refine ab_ldcw C dJ6_bitCount_0f7a4_11 cwJ6_266 ?_
  refine ab_iand C dJ6_bitCount_0f7a4_14  ?_
  refine ab_iload_n C dJ6_bitCount_0f7a4_15 rfl ?_
  refine ab_iconst C dJ6_bitCount_0f7a4_16 (v := 2) rfl ?_
  refine ab_iushr C dJ6_bitCount_0f7a4_17  ?_
  refine ab_ldcw C dJ6_bitCount_0f7a4_18 cwJ6_266 ?_
  refine ab_iand C dJ6_bitCount_0f7a4_21  ?_
  refine ab_iadd C dJ6_bitCount_0f7a4_22  ?_
  refine ab_nmI (fun w1 ew1 => ?_)
  replace h := ab_kh ew1 h
  refine ab_istore_n C dJ6_bitCount_0f7a4_23 (Nat.le_of_ble_eq_true rfl) ?_
  refine ab_iload_n C dJ6_bitCount_0f7a4_24 rfl ?_
  refine ab_iload_n C dJ6_bitCount_0f7a4_25 rfl ?_
  refine ab_iconst C dJ6_bitCount_0f7a4_26 (v := 4) rfl ?_
  refine ab_iushr C dJ6_bitCount_0f7a4_27  ?_
  refine ab_iadd C dJ6_bitCount_0f7a4_28  ?_
  refine ab_ldcw C dJ6_bitCount_0f7a4_29 cwJ6_267 ?_
  refine ab_iand C dJ6_bitCount_0f7a4_32  ?_
  refine ab_istore_n C dJ6_bitCount_0f7a4_33 (Nat.le_of_ble_eq_true rfl) ?_
  refine ab_weak (lv' := [some (.inl ((w1 + (ab_ushr w1 4)) &&& 252645135))]) ⟨.inr rfl, trivial⟩ ?_
  refine ab_iload_n C dJ6_bitCount_0f7a4_34 rfl ?_
  refine ab_iload_n C dJ6_bitCount_0f7a4_35 rfl ?_
  refine ab_bipush C dJ6_bitCount_0f7a4_36 (v := 8) rfl ?_
  refine ab_iushr C dJ6_bitCount_0f7a4_38  ?_
  refine ab_iadd C dJ6_bitCount_0f7a4_39  ?_
  refine ab_nmI (fun w2 ew2 => ?_)
  replace h := ab_kh ew2 h
  refine ab_istore_n C dJ6_bitCount_0f7a4_40 (Nat.le_of_ble_eq_true rfl) ?_
  refine ab_iload_n C dJ6_bitCount_0f7a4_41 rfl ?_
  refine ab_iload_n C dJ6_bitCount_0f7a4_42 rfl ?_
  refine ab_bipush C dJ6_bitCount_0f7a4_43 (v := 16) rfl ?_
  refine ab_iushr C dJ6_bitCount_0f7a4_45  ?_
  refine ab_iadd C dJ6_bitCount_0f7a4_46  ?_
  refine ab_istore_n C dJ6_bitCount_0f7a4_47 (Nat.le_of_ble_eq_true rfl) ?_
  refine ab_iload_n C dJ6_bitCount_0f7a4_48 rfl ?_
  refine ab_bipush C dJ6_bitCount_0f7a4_49 (v := 63) rfl ?_
  refine ab_iand C dJ6_bitCount_0f7a4_51  ?_
  obtain rfl := Option.some.inj h
  exact ab_iret C dJ6_bitCount_0f7a4_52
end
def fJ7_fill_031fb_b5_o (kk5 : Nat → Int32 → Int32 → Int32 → ab_S → Option ab_S) (c0 : Nat) (v1 : Int32) (v2 : Int32) (v3 : Int32) (σ : ab_S) : Option ab_S := (if v3 ≤ v2 then some σ else (if ab_inb v2 750 = true then ab_k (ab_si σ 26 c0 v2.toNatClampNeg (vp_nar .byte v1)) fun σ3 => kk5 c0 v1 (v2 + 1) v3 σ3 else none))
def fJ7_fill_031fb_b5 : Nat → Nat → Int32 → Int32 → Int32 → ab_S → Option ab_S
  | 0 => fun _ _ _ _ _ => none
  | n + 1 => fJ7_fill_031fb_b5_o  (fJ7_fill_031fb_b5 n)
def fJ7_fill_031fb (k0 : Nat) (x1 : Int32) (σ : ab_S) : Option ab_S := fJ7_fill_031fb_b5 ab_N k0 x1 0 (Int32.ofNat 750) σ
section
variable {p : Program} {l : Launch} {e : Env} {s : State} {m : MethodId} {args : Array Value} {below : List Frame} {meth : Method} {c : Code} {D : va_G} {cA : Nat → ClassId} {ad : Nat → Nat → Nat}
set_option maxRecDepth 100000 in
set_option maxHeartbeats 4000000 in
theorem gJ7_fill_031fb_b5_o {R : ab_S} (C : ab_C yC p s m args meth c D cA ad cJ7_fill_031fb 4 RJ7 none) {kk5 : Nat → Int32 → Int32 → Int32 → ab_S → Option ab_S} (hk5 : ∀ (c0 : Nat) (v1 : Int32) (v2 : Int32) (v3 : Int32) (σ : ab_S), c0 < 4 → kk5 c0 v1 v2 v3 σ = some R → ab_G yC p l e s m args below meth c D cA ad 4 0 none R 5 [some (.inr (.inr (26, c0))), some (.inl v1), some (.inl v2), some (.inl v3)] [] σ) (c0 : Nat) (v1 : Int32) (v2 : Int32) (v3 : Int32) (σ : ab_S) (mc0 : c0 < 4) (h : fJ7_fill_031fb_b5_o kk5 c0 v1 v2 v3 σ = some R) : ab_G yC p l e s m args below meth c D cA ad 4 0 none R 5 [some (.inr (.inr (26, c0))), some (.inl v1), some (.inl v2), some (.inl v3)] [] σ := by
  refine ab_iload_n C dJ7_fill_031fb_5 rfl ?_
  refine ab_iload_n C dJ7_fill_031fb_6 rfl ?_
  refine ab_icmp_ge C (tgt := 20) dJ7_fill_031fb_7 (by decide) (fun hc1 => ?_) (fun hc1 => ?_)
  · replace h := ab_pos hc1 h
    obtain rfl := Option.some.inj h
    exact ab_vret C dJ7_fill_031fb_20
  · replace h := ab_neg hc1 h
    refine ab_aload_n C dJ7_fill_031fb_10 rfl ?_
    refine ab_iload_n C dJ7_fill_031fb_11 rfl ?_
    refine ab_iload_n C dJ7_fill_031fb_12 rfl ?_
    obtain ⟨hg2, h⟩ := ab_grd h
    refine ab_bast C dJ7_fill_031fb_13 rkC_26 (mmC_26 (mc0)) hg2 ?_
    refine ab_nmS (fun σ3 eσ3 => ?_)
    replace h := ab_kh eσ3 h
    refine ab_iinc C dJ7_fill_031fb_14 rfl (v := 1) rfl (Nat.le_of_ble_eq_true rfl) ?_
    refine ab_goto C (tgt := 5) dJ7_fill_031fb_17 (by decide) ?_
    refine ab_weak (lv' := [some (.inr (.inr (26, c0))), some (.inl v1), some (.inl (v2 + 1)), some (.inl v3)]) ⟨.inr rfl, ⟨.inr rfl, ⟨.inr rfl, ⟨.inr rfl, trivial⟩⟩⟩⟩ ?_
    exact hk5 _ _ _ _ _ (mc0) h
theorem gJ7_fill_031fb_b5 {R : ab_S} (C : ab_C yC p s m args meth c D cA ad cJ7_fill_031fb 4 RJ7 none) : ∀ (j : Nat) (c0 : Nat) (v1 : Int32) (v2 : Int32) (v3 : Int32) (σ : ab_S), c0 < 4 → fJ7_fill_031fb_b5 j c0 v1 v2 v3 σ = some R → ab_G yC p l e s m args below meth c D cA ad 4 0 none R 5 [some (.inr (.inr (26, c0))), some (.inl v1), some (.inl v2), some (.inl v3)] [] σ := by
  intro j
  induction j with
  | zero => intro c0 v1 v2 v3 σ hh0 h; cases h
  | succ j ih => intro c0 v1 v2 v3 σ hh0 h; exact gJ7_fill_031fb_b5_o C ih _ _ _ _ _ hh0 h
set_option maxRecDepth 100000 in
set_option maxHeartbeats 4000000 in
theorem tJ7_fill_031fb (l : Launch) (k0 : Nat) (x1 : Int32) (σ : ab_S) (hk0 : k0 < 4) {R : ab_S} (h : fJ7_fill_031fb k0 x1 σ = some R) : ab_M l yC yJ7_fill_031fb cJ7_fill_031fb 4 none 0 [.inr (.inr (26, k0)), .inl x1] σ none R := by
  refine ab_M_intro ndC (by decide) (Nat.le_of_ble_eq_true rfl) ?_
  intro p e s m args below meth c D cA ad C
  have C : ab_C yC p s m args meth c D cA ad cJ7_fill_031fb 4 RJ7 none := C
  refine ab_weak (lv' := [some (.inr (.inr (26, k0))), some (.inl x1), none, none]) ⟨.inr rfl, ⟨.inr rfl, ⟨.inl rfl, ⟨.inl rfl, trivial⟩⟩⟩⟩ ?_
  refine ab_iconst C dJ7_fill_031fb_0 (v := 0) rfl ?_
  refine ab_istore_n C dJ7_fill_031fb_1 (Nat.le_of_ble_eq_true rfl) ?_
  refine ab_aload_n C dJ7_fill_031fb_2 rfl ?_
  refine ab_alen C dJ7_fill_031fb_3 rkC_26 (Nat.le_of_ble_eq_true rfl) (mmC_26 (hk0)) ?_
  refine ab_istore_n C dJ7_fill_031fb_4 (Nat.le_of_ble_eq_true rfl) ?_
  refine ab_weak (lv' := [some (.inr (.inr (26, k0))), some (.inl x1), some (.inl 0), some (.inl (Int32.ofNat 750))]) ⟨.inr rfl, ⟨.inr rfl, ⟨.inr rfl, ⟨.inr rfl, trivial⟩⟩⟩⟩ ?_
  exact gJ7_fill_031fb_b5 C ab_N _ _ _ _ _ (hk0) h
end
def fJ7_fill_53178_r2_b5_o (kk5 : Int32 → Int32 → Int32 → ab_S → Option ab_S) (v1 : Int32) (v2 : Int32) (v3 : Int32) (σ : ab_S) : Option ab_S := (if v3 ≤ v2 then some σ else (if ab_inb v2 5 = true then ab_k (ab_si σ 2 0 v2.toNatClampNeg v1) fun σ3 => kk5 v1 (v2 + 1) v3 σ3 else none))
def fJ7_fill_53178_r2_b5 : Nat → Int32 → Int32 → Int32 → ab_S → Option ab_S
  | 0 => fun _ _ _ _ => none
  | n + 1 => fJ7_fill_53178_r2_b5_o  (fJ7_fill_53178_r2_b5 n)
def fJ7_fill_53178_r2 (x1 : Int32) (σ : ab_S) : Option ab_S := fJ7_fill_53178_r2_b5 ab_N x1 0 (Int32.ofNat 5) σ
section
variable {p : Program} {l : Launch} {e : Env} {s : State} {m : MethodId} {args : Array Value} {below : List Frame} {meth : Method} {c : Code} {D : va_G} {cA : Nat → ClassId} {ad : Nat → Nat → Nat}
set_option maxRecDepth 100000 in
set_option maxHeartbeats 4000000 in
theorem gJ7_fill_53178_r2_b5_o {R : ab_S} (C : ab_C yC p s m args meth c D cA ad cJ7_fill_53178 4 RJ7 none) {kk5 : Int32 → Int32 → Int32 → ab_S → Option ab_S} (hk5 : ∀ (v1 : Int32) (v2 : Int32) (v3 : Int32) (σ : ab_S), kk5 v1 v2 v3 σ = some R → ab_G yC p l e s m args below meth c D cA ad 4 0 none R 5 [some (.inr (.inr (2, 0))), some (.inl v1), some (.inl v2), some (.inl v3)] [] σ) (v1 : Int32) (v2 : Int32) (v3 : Int32) (σ : ab_S) (h : fJ7_fill_53178_r2_b5_o kk5 v1 v2 v3 σ = some R) : ab_G yC p l e s m args below meth c D cA ad 4 0 none R 5 [some (.inr (.inr (2, 0))), some (.inl v1), some (.inl v2), some (.inl v3)] [] σ := by
  refine ab_iload_n C dJ7_fill_53178_5 rfl ?_
  refine ab_iload_n C dJ7_fill_53178_6 rfl ?_
  refine ab_icmp_ge C (tgt := 20) dJ7_fill_53178_7 (by decide) (fun hc1 => ?_) (fun hc1 => ?_)
  · replace h := ab_pos hc1 h
    obtain rfl := Option.some.inj h
    exact ab_vret C dJ7_fill_53178_20
  · replace h := ab_neg hc1 h
    refine ab_aload_n C dJ7_fill_53178_10 rfl ?_
    refine ab_iload_n C dJ7_fill_53178_11 rfl ?_
    refine ab_iload_n C dJ7_fill_53178_12 rfl ?_
    obtain ⟨hg2, h⟩ := ab_grd h
    refine ab_iast C dJ7_fill_53178_13 rkC_2 mmC_2 hg2 ?_
    refine ab_nmS (fun σ3 eσ3 => ?_)
    replace h := ab_kh eσ3 h
    refine ab_iinc C dJ7_fill_53178_14 rfl (v := 1) rfl (Nat.le_of_ble_eq_true rfl) ?_
    refine ab_goto C (tgt := 5) dJ7_fill_53178_17 (by decide) ?_
    refine ab_weak (lv' := [some (.inr (.inr (2, 0))), some (.inl v1), some (.inl (v2 + 1)), some (.inl v3)]) ⟨.inr rfl, ⟨.inr rfl, ⟨.inr rfl, ⟨.inr rfl, trivial⟩⟩⟩⟩ ?_
    exact hk5 _ _ _ _ h
theorem gJ7_fill_53178_r2_b5 {R : ab_S} (C : ab_C yC p s m args meth c D cA ad cJ7_fill_53178 4 RJ7 none) : ∀ (j : Nat) (v1 : Int32) (v2 : Int32) (v3 : Int32) (σ : ab_S), fJ7_fill_53178_r2_b5 j v1 v2 v3 σ = some R → ab_G yC p l e s m args below meth c D cA ad 4 0 none R 5 [some (.inr (.inr (2, 0))), some (.inl v1), some (.inl v2), some (.inl v3)] [] σ := by
  intro j
  induction j with
  | zero => intro v1 v2 v3 σ  h; cases h
  | succ j ih => intro v1 v2 v3 σ  h; exact gJ7_fill_53178_r2_b5_o C ih _ _ _ _ h
set_option maxRecDepth 100000 in
set_option maxHeartbeats 4000000 in
theorem tJ7_fill_53178_r2 (l : Launch) (x1 : Int32) (σ : ab_S) {R : ab_S} (h : fJ7_fill_53178_r2 x1 σ = some R) : ab_M l yC yJ7_fill_53178 cJ7_fill_53178 4 none 0 [.inr (.inr (2, 0)), .inl x1] σ none R := by
  refine ab_M_intro ndC (by decide) (Nat.le_of_ble_eq_true rfl) ?_
  intro p e s m args below meth c D cA ad C
  have C : ab_C yC p s m args meth c D cA ad cJ7_fill_53178 4 RJ7 none := C
  refine ab_weak (lv' := [some (.inr (.inr (2, 0))), some (.inl x1), none, none]) ⟨.inr rfl, ⟨.inr rfl, ⟨.inl rfl, ⟨.inl rfl, trivial⟩⟩⟩⟩ ?_
  refine ab_iconst C dJ7_fill_53178_0 (v := 0) rfl ?_
  refine ab_istore_n C dJ7_fill_53178_1 (Nat.le_of_ble_eq_true rfl) ?_
  refine ab_aload_n C dJ7_fill_53178_2 rfl ?_
  refine ab_alen C dJ7_fill_53178_3 rkC_2 (Nat.le_of_ble_eq_true rfl) mmC_2 ?_
  refine ab_istore_n C dJ7_fill_53178_4 (Nat.le_of_ble_eq_true rfl) ?_
  refine ab_weak (lv' := [some (.inr (.inr (2, 0))), some (.inl x1), some (.inl 0), some (.inl (Int32.ofNat 5))]) ⟨.inr rfl, ⟨.inr rfl, ⟨.inr rfl, ⟨.inr rfl, trivial⟩⟩⟩⟩ ?_
  exact gJ7_fill_53178_r2_b5 C ab_N _ _ _ _ h
end
def fJ7_fill_53178_r3_b5_o (kk5 : Int32 → Int32 → Int32 → ab_S → Option ab_S) (v1 : Int32) (v2 : Int32) (v3 : Int32) (σ : ab_S) : Option ab_S := (if v3 ≤ v2 then some σ else (if ab_inb v2 5 = true then ab_k (ab_si σ 3 0 v2.toNatClampNeg v1) fun σ3 => kk5 v1 (v2 + 1) v3 σ3 else none))
def fJ7_fill_53178_r3_b5 : Nat → Int32 → Int32 → Int32 → ab_S → Option ab_S
  | 0 => fun _ _ _ _ => none
  | n + 1 => fJ7_fill_53178_r3_b5_o  (fJ7_fill_53178_r3_b5 n)
def fJ7_fill_53178_r3 (x1 : Int32) (σ : ab_S) : Option ab_S := fJ7_fill_53178_r3_b5 ab_N x1 0 (Int32.ofNat 5) σ
section
variable {p : Program} {l : Launch} {e : Env} {s : State} {m : MethodId} {args : Array Value} {below : List Frame} {meth : Method} {c : Code} {D : va_G} {cA : Nat → ClassId} {ad : Nat → Nat → Nat}
set_option maxRecDepth 100000 in
set_option maxHeartbeats 4000000 in
theorem gJ7_fill_53178_r3_b5_o {R : ab_S} (C : ab_C yC p s m args meth c D cA ad cJ7_fill_53178 4 RJ7 none) {kk5 : Int32 → Int32 → Int32 → ab_S → Option ab_S} (hk5 : ∀ (v1 : Int32) (v2 : Int32) (v3 : Int32) (σ : ab_S), kk5 v1 v2 v3 σ = some R → ab_G yC p l e s m args below meth c D cA ad 4 0 none R 5 [some (.inr (.inr (3, 0))), some (.inl v1), some (.inl v2), some (.inl v3)] [] σ) (v1 : Int32) (v2 : Int32) (v3 : Int32) (σ : ab_S) (h : fJ7_fill_53178_r3_b5_o kk5 v1 v2 v3 σ = some R) : ab_G yC p l e s m args below meth c D cA ad 4 0 none R 5 [some (.inr (.inr (3, 0))), some (.inl v1), some (.inl v2), some (.inl v3)] [] σ := by
  refine ab_iload_n C dJ7_fill_53178_5 rfl ?_
  refine ab_iload_n C dJ7_fill_53178_6 rfl ?_
  refine ab_icmp_ge C (tgt := 20) dJ7_fill_53178_7 (by decide) (fun hc1 => ?_) (fun hc1 => ?_)
  · replace h := ab_pos hc1 h
    obtain rfl := Option.some.inj h
    exact ab_vret C dJ7_fill_53178_20
  · replace h := ab_neg hc1 h
    refine ab_aload_n C dJ7_fill_53178_10 rfl ?_
    refine ab_iload_n C dJ7_fill_53178_11 rfl ?_
    refine ab_iload_n C dJ7_fill_53178_12 rfl ?_
    obtain ⟨hg2, h⟩ := ab_grd h
    refine ab_iast C dJ7_fill_53178_13 rkC_3 mmC_3 hg2 ?_
    refine ab_nmS (fun σ3 eσ3 => ?_)
    replace h := ab_kh eσ3 h
    refine ab_iinc C dJ7_fill_53178_14 rfl (v := 1) rfl (Nat.le_of_ble_eq_true rfl) ?_
    refine ab_goto C (tgt := 5) dJ7_fill_53178_17 (by decide) ?_
    refine ab_weak (lv' := [some (.inr (.inr (3, 0))), some (.inl v1), some (.inl (v2 + 1)), some (.inl v3)]) ⟨.inr rfl, ⟨.inr rfl, ⟨.inr rfl, ⟨.inr rfl, trivial⟩⟩⟩⟩ ?_
    exact hk5 _ _ _ _ h
theorem gJ7_fill_53178_r3_b5 {R : ab_S} (C : ab_C yC p s m args meth c D cA ad cJ7_fill_53178 4 RJ7 none) : ∀ (j : Nat) (v1 : Int32) (v2 : Int32) (v3 : Int32) (σ : ab_S), fJ7_fill_53178_r3_b5 j v1 v2 v3 σ = some R → ab_G yC p l e s m args below meth c D cA ad 4 0 none R 5 [some (.inr (.inr (3, 0))), some (.inl v1), some (.inl v2), some (.inl v3)] [] σ := by
  intro j
  induction j with
  | zero => intro v1 v2 v3 σ  h; cases h
  | succ j ih => intro v1 v2 v3 σ  h; exact gJ7_fill_53178_r3_b5_o C ih _ _ _ _ h
set_option maxRecDepth 100000 in
set_option maxHeartbeats 4000000 in
theorem tJ7_fill_53178_r3 (l : Launch) (x1 : Int32) (σ : ab_S) {R : ab_S} (h : fJ7_fill_53178_r3 x1 σ = some R) : ab_M l yC yJ7_fill_53178 cJ7_fill_53178 4 none 0 [.inr (.inr (3, 0)), .inl x1] σ none R := by
  refine ab_M_intro ndC (by decide) (Nat.le_of_ble_eq_true rfl) ?_
  intro p e s m args below meth c D cA ad C
  have C : ab_C yC p s m args meth c D cA ad cJ7_fill_53178 4 RJ7 none := C
  refine ab_weak (lv' := [some (.inr (.inr (3, 0))), some (.inl x1), none, none]) ⟨.inr rfl, ⟨.inr rfl, ⟨.inl rfl, ⟨.inl rfl, trivial⟩⟩⟩⟩ ?_
  refine ab_iconst C dJ7_fill_53178_0 (v := 0) rfl ?_
  refine ab_istore_n C dJ7_fill_53178_1 (Nat.le_of_ble_eq_true rfl) ?_
  refine ab_aload_n C dJ7_fill_53178_2 rfl ?_
  refine ab_alen C dJ7_fill_53178_3 rkC_3 (Nat.le_of_ble_eq_true rfl) mmC_3 ?_
  refine ab_istore_n C dJ7_fill_53178_4 (Nat.le_of_ble_eq_true rfl) ?_
  refine ab_weak (lv' := [some (.inr (.inr (3, 0))), some (.inl x1), some (.inl 0), some (.inl (Int32.ofNat 5))]) ⟨.inr rfl, ⟨.inr rfl, ⟨.inr rfl, ⟨.inr rfl, trivial⟩⟩⟩⟩ ?_
  exact gJ7_fill_53178_r3_b5 C ab_N _ _ _ _ h
end
def fJ7_fill_d0a16_b6_o (kk6 : Nat → Int64 → Int32 → Int32 → ab_S → Option ab_S) (c0 : Nat) (v1 : Int64) (v3 : Int32) (v4 : Int32) (σ : ab_S) : Option ab_S := (if v4 ≤ v3 then some σ else (if ab_inb v3 60 = true then ab_k (ab_sl σ 43 c0 v3.toNatClampNeg v1) fun σ3 => kk6 c0 v1 (v3 + 1) v4 σ3 else none))
def fJ7_fill_d0a16_b6 : Nat → Nat → Int64 → Int32 → Int32 → ab_S → Option ab_S
  | 0 => fun _ _ _ _ _ => none
  | n + 1 => fJ7_fill_d0a16_b6_o  (fJ7_fill_d0a16_b6 n)
def fJ7_fill_d0a16 (k0 : Nat) (x1 : Int64) (σ : ab_S) : Option ab_S := fJ7_fill_d0a16_b6 ab_N k0 x1 0 (Int32.ofNat 60) σ
section
variable {p : Program} {l : Launch} {e : Env} {s : State} {m : MethodId} {args : Array Value} {below : List Frame} {meth : Method} {c : Code} {D : va_G} {cA : Nat → ClassId} {ad : Nat → Nat → Nat}
set_option maxRecDepth 100000 in
set_option maxHeartbeats 4000000 in
theorem gJ7_fill_d0a16_b6_o {R : ab_S} (C : ab_C yC p s m args meth c D cA ad cJ7_fill_d0a16 5 RJ7 none) {kk6 : Nat → Int64 → Int32 → Int32 → ab_S → Option ab_S} (hk6 : ∀ (c0 : Nat) (v1 : Int64) (v3 : Int32) (v4 : Int32) (σ : ab_S), c0 < 6 → kk6 c0 v1 v3 v4 σ = some R → ab_G yC p l e s m args below meth c D cA ad 5 0 none R 6 [some (.inr (.inr (43, c0))), some (.inr (.inl v1)), none, some (.inl v3), some (.inl v4)] [] σ) (c0 : Nat) (v1 : Int64) (v3 : Int32) (v4 : Int32) (σ : ab_S) (mc0 : c0 < 6) (h : fJ7_fill_d0a16_b6_o kk6 c0 v1 v3 v4 σ = some R) : ab_G yC p l e s m args below meth c D cA ad 5 0 none R 6 [some (.inr (.inr (43, c0))), some (.inr (.inl v1)), none, some (.inl v3), some (.inl v4)] [] σ := by
  refine ab_iload_n C dJ7_fill_d0a16_6 rfl ?_
  refine ab_iload C dJ7_fill_d0a16_7 rfl ?_
  refine ab_icmp_ge C (tgt := 22) dJ7_fill_d0a16_9 (by decide) (fun hc1 => ?_) (fun hc1 => ?_)
  · replace h := ab_pos hc1 h
    obtain rfl := Option.some.inj h
    exact ab_vret C dJ7_fill_d0a16_22
  · replace h := ab_neg hc1 h
    refine ab_aload_n C dJ7_fill_d0a16_12 rfl ?_
    refine ab_iload_n C dJ7_fill_d0a16_13 rfl ?_
    refine ab_lload_n C dJ7_fill_d0a16_14 rfl ?_
    obtain ⟨hg2, h⟩ := ab_grd h
    refine ab_last C dJ7_fill_d0a16_15 rkC_43 (mmC_43 (mc0)) hg2 ?_
    refine ab_nmS (fun σ3 eσ3 => ?_)
    replace h := ab_kh eσ3 h
    refine ab_iinc C dJ7_fill_d0a16_16 rfl (v := 1) rfl (Nat.le_of_ble_eq_true rfl) ?_
    refine ab_goto C (tgt := 6) dJ7_fill_d0a16_19 (by decide) ?_
    refine ab_weak (lv' := [some (.inr (.inr (43, c0))), some (.inr (.inl v1)), none, some (.inl (v3 + 1)), some (.inl v4)]) ⟨.inr rfl, ⟨.inr rfl, ⟨.inl rfl, ⟨.inr rfl, ⟨.inr rfl, trivial⟩⟩⟩⟩⟩ ?_
    exact hk6 _ _ _ _ _ (mc0) h
theorem gJ7_fill_d0a16_b6 {R : ab_S} (C : ab_C yC p s m args meth c D cA ad cJ7_fill_d0a16 5 RJ7 none) : ∀ (j : Nat) (c0 : Nat) (v1 : Int64) (v3 : Int32) (v4 : Int32) (σ : ab_S), c0 < 6 → fJ7_fill_d0a16_b6 j c0 v1 v3 v4 σ = some R → ab_G yC p l e s m args below meth c D cA ad 5 0 none R 6 [some (.inr (.inr (43, c0))), some (.inr (.inl v1)), none, some (.inl v3), some (.inl v4)] [] σ := by
  intro j
  induction j with
  | zero => intro c0 v1 v3 v4 σ hh0 h; cases h
  | succ j ih => intro c0 v1 v3 v4 σ hh0 h; exact gJ7_fill_d0a16_b6_o C ih _ _ _ _ _ hh0 h
set_option maxRecDepth 100000 in
set_option maxHeartbeats 4000000 in
theorem tJ7_fill_d0a16 (l : Launch) (k0 : Nat) (x1 : Int64) (σ : ab_S) (hk0 : k0 < 6) {R : ab_S} (h : fJ7_fill_d0a16 k0 x1 σ = some R) : ab_M l yC yJ7_fill_d0a16 cJ7_fill_d0a16 5 none 0 [.inr (.inr (43, k0)), .inr (.inl x1)] σ none R := by
  refine ab_M_intro ndC (by decide) (Nat.le_of_ble_eq_true rfl) ?_
  intro p e s m args below meth c D cA ad C
  have C : ab_C yC p s m args meth c D cA ad cJ7_fill_d0a16 5 RJ7 none := C
  refine ab_weak (lv' := [some (.inr (.inr (43, k0))), some (.inr (.inl x1)), none, none, none]) ⟨.inr rfl, ⟨.inr rfl, ⟨.inl rfl, ⟨.inl rfl, ⟨.inl rfl, trivial⟩⟩⟩⟩⟩ ?_
  refine ab_iconst C dJ7_fill_d0a16_0 (v := 0) rfl ?_
  refine ab_istore_n C dJ7_fill_d0a16_1 (Nat.le_of_ble_eq_true rfl) ?_
  refine ab_aload_n C dJ7_fill_d0a16_2 rfl ?_
  refine ab_alen C dJ7_fill_d0a16_3 rkC_43 (Nat.le_of_ble_eq_true rfl) (mmC_43 (hk0)) ?_
  refine ab_istore C dJ7_fill_d0a16_4 (Nat.le_of_ble_eq_true rfl) ?_
  refine ab_weak (lv' := [some (.inr (.inr (43, k0))), some (.inr (.inl x1)), none, some (.inl 0), some (.inl (Int32.ofNat 60))]) ⟨.inr rfl, ⟨.inr rfl, ⟨.inl rfl, ⟨.inr rfl, ⟨.inr rfl, trivial⟩⟩⟩⟩⟩ ?_
  exact gJ7_fill_d0a16_b6 C ab_N _ _ _ _ _ (hk0) h
end
def fX0_isFull_b14 (t0 : Int32) (σ : ab_S) : Option Int32 := (if ab_isb t0 = true then some t0 else none)
def fX0_isFull (σ : ab_S) : Option Int32 := (if (σ.1 36 0 2) < 50 then fX0_isFull_b14 0 σ else fX0_isFull_b14 1 σ)
section
variable {p : Program} {l : Launch} {e : Env} {s : State} {m : MethodId} {args : Array Value} {below : List Frame} {meth : Method} {c : Code} {D : va_G} {cA : Nat → ClassId} {ad : Nat → Nat → Nat}
set_option maxRecDepth 100000 in
set_option maxHeartbeats 4000000 in
theorem gX0_isFull_b14 {R : Int32} (C : ab_C yC p s m args meth c D cA ad cX0_isFull 1 RX0 (some .boolean)) (σ : ab_S) (t0 : Int32) (h : fX0_isFull_b14 t0 σ = some R) : ab_G yC p l e s m args below meth c D cA ad 1 0 (some (.inl R)) σ 14 [none] [.inl t0] σ := by
  obtain ⟨hg1, h⟩ := ab_grd h
  obtain rfl := Option.some.inj h
  exact ab_zret C dX0_isFull_14 hg1
set_option maxRecDepth 100000 in
set_option maxHeartbeats 4000000 in
theorem tX0_isFull (l : Launch) (σ : ab_S) {R : Int32} (h : fX0_isFull σ = some R) : ab_M l yC yX0_isFull cX0_isFull 1 (some .boolean) 0 [.inr (.inr (36, 0))] σ (some (.inl R)) σ := by
  refine ab_M_intro ndC (by decide) (Nat.le_of_ble_eq_true rfl) ?_
  intro p e s m args below meth c D cA ad C
  have C : ab_C yC p s m args meth c D cA ad cX0_isFull 1 RX0 (some .boolean) := C
  refine ab_weak (lv' := [some (.inr (.inr (36, 0)))]) ⟨.inr rfl, trivial⟩ ?_
  refine ab_aload_n C dX0_isFull_0 rfl ?_
  refine ab_getI C dX0_isFull_1 flX0_18 rkC_36 rfl mmC_36 ?_
  refine ab_bipush C dX0_isFull_4 (v := 50) rfl ?_
  refine ab_icmp_lt C (tgt := 13) dX0_isFull_6 (by decide) (fun hc1 => ?_) (fun hc1 => ?_)
  · replace h := ab_pos hc1 h
    refine ab_iconst C dX0_isFull_13 (v := 0) rfl ?_
    refine ab_weak (lv' := [none]) ⟨.inl rfl, trivial⟩ ?_
    exact gX0_isFull_b14 C _ _ h
  · replace h := ab_neg hc1 h
    refine ab_iconst C dX0_isFull_9 (v := 1) rfl ?_
    refine ab_goto C (tgt := 14) dX0_isFull_10 (by decide) ?_
    refine ab_weak (lv' := [none]) ⟨.inl rfl, trivial⟩ ?_
    exact gX0_isFull_b14 C _ _ h
end
def fX0_add (x1 : Int32) (σ : ab_S) : Option (Int32 × ab_S) := (fX0_isFull σ).bind fun q1 => (if q1 = 0 then (if ab_inb (σ.1 36 0 2) 50 = true then ab_k (ab_si σ 37 0 ((σ.1 36 0 2).toNatClampNeg) x1) fun σ4 => ab_k (ab_si σ4 36 0 2 ((σ4.1 36 0 2) + 1)) fun σ5 => some ((σ5.1 36 0 2) - 1, σ5) else none) else some ((-3), σ))
section
variable {p : Program} {l : Launch} {e : Env} {s : State} {m : MethodId} {args : Array Value} {below : List Frame} {meth : Method} {c : Code} {D : va_G} {cA : Nat → ClassId} {ad : Nat → Nat → Nat}
set_option maxRecDepth 100000 in
set_option maxHeartbeats 4000000 in
theorem tX0_add (l : Launch) (x1 : Int32) (σ : ab_S) {R : (Int32 × ab_S)} (h : fX0_add x1 σ = some R) : ab_M l yC yX0_add cX0_add 2 (some .int) 1 [.inr (.inr (36, 0)), .inl x1] σ (some (.inl R.1)) R.2 := by
  refine ab_M_intro ndC (by decide) (Nat.le_of_ble_eq_true rfl) ?_
  intro p e s m args below meth c D cA ad C
  have C : ab_C yC p s m args meth c D cA ad cX0_add 2 RX0 (some .int) := C
  refine ab_weak (lv' := [some (.inr (.inr (36, 0))), some (.inl x1)]) ⟨.inr rfl, ⟨.inr rfl, trivial⟩⟩ ?_
  refine ab_aload_n C dX0_add_0 rfl ?_
  obtain ⟨q1, hq1, h⟩ := ab_bind h
  refine ab_inv1 C dX0_add_1 mlX0_22 yvX0_isFull rkC_36 ⟨_, _, rfl⟩ mmC_36 (tX0_isFull l _ hq1) (Nat.le_of_ble_eq_true rfl) (Nat.le_of_ble_eq_true rfl) rfl (Nat.le_of_ble_eq_true rfl) ?_
  refine ab_if_eq C (tgt := 10) dX0_add_4 (by decide) (fun hc2 => ?_) (fun hc2 => ?_)
  · replace h := ab_pos hc2 h
    refine ab_aload_n C dX0_add_10 rfl ?_
    refine ab_getR C dX0_add_11 flX0_11 rkC_36 rfl mmC_36 ?_
    refine ab_aload_n C dX0_add_14 rfl ?_
    refine ab_getI C dX0_add_15 flX0_18 rkC_36 rfl mmC_36 ?_
    refine ab_iload_n C dX0_add_18 rfl ?_
    obtain ⟨hg3, h⟩ := ab_grd h
    refine ab_iast C dX0_add_19 rkC_37 mmC_37 hg3 ?_
    refine ab_nmS (fun σ4 eσ4 => ?_)
    replace h := ab_kh eσ4 h
    refine ab_aload_n C dX0_add_20 rfl ?_
    refine ab_dup C dX0_add_21 rfl ?_
    refine ab_getI C dX0_add_22 flX0_18 rkC_36 rfl mmC_36 ?_
    refine ab_iconst C dX0_add_25 (v := 1) rfl ?_
    refine ab_iadd C dX0_add_26  ?_
    refine ab_putI C dX0_add_27 fpX0_18 rkC_36 rfl mmC_36 rfl rfl ?_
    refine ab_nmS (fun σ5 eσ5 => ?_)
    replace h := ab_kh eσ5 h
    refine ab_aload_n C dX0_add_30 rfl ?_
    refine ab_getI C dX0_add_31 flX0_18 rkC_36 rfl mmC_36 ?_
    refine ab_iconst C dX0_add_34 (v := 1) rfl ?_
    refine ab_isub C dX0_add_35  ?_
    obtain rfl := Option.some.inj h
    exact ab_iret C dX0_add_36
  · replace h := ab_neg hc2 h
    refine ab_bipush C dX0_add_7 (v := (-3)) rfl ?_
    obtain rfl := Option.some.inj h
    exact ab_iret C dX0_add_9
end
def fX0_isKind_b15 (t0 : Int32) : Option Int32 := (if ab_isb t0 = true then some t0 else none)
def fX0_isKind_b14 : Option Int32 := fX0_isKind_b15 0
def fX0_isKind (x0 : Int32) : Option Int32 := (if x0 < 0 then fX0_isKind_b14 else (if 8 ≤ x0 then fX0_isKind_b14 else fX0_isKind_b15 1))
section
variable {p : Program} {l : Launch} {e : Env} {s : State} {m : MethodId} {args : Array Value} {below : List Frame} {meth : Method} {c : Code} {D : va_G} {cA : Nat → ClassId} {ad : Nat → Nat → Nat}
set_option maxRecDepth 100000 in
set_option maxHeartbeats 4000000 in
theorem gX0_isKind_b15 {R : Int32} (C : ab_C yC p s m args meth c D cA ad cX0_isKind 1 RX0 (some .boolean)) {σ : ab_S} (t0 : Int32) (h : fX0_isKind_b15 t0 = some R) : ab_G yC p l e s m args below meth c D cA ad 1 0 (some (.inl R)) σ 15 [none] [.inl t0] σ := by
  obtain ⟨hg1, h⟩ := ab_grd h
  obtain rfl := Option.some.inj h
  exact ab_zret C dX0_isKind_15 hg1
set_option maxRecDepth 100000 in
set_option maxHeartbeats 4000000 in
theorem gX0_isKind_b14 {R : Int32} (C : ab_C yC p s m args meth c D cA ad cX0_isKind 1 RX0 (some .boolean)) {σ : ab_S} (h : fX0_isKind_b14 = some R) : ab_G yC p l e s m args below meth c D cA ad 1 0 (some (.inl R)) σ 14 [none] [] σ := by
  refine ab_iconst C dX0_isKind_14 (v := 0) rfl ?_
  refine ab_weak (lv' := [none]) ⟨.inl rfl, trivial⟩ ?_
  exact gX0_isKind_b15 C _ h
set_option maxRecDepth 100000 in
set_option maxHeartbeats 4000000 in
theorem tX0_isKind (l : Launch) (x0 : Int32) (σ : ab_S) {R : Int32} (h : fX0_isKind x0 = some R) : ab_M l yC yX0_isKind cX0_isKind 1 (some .boolean) 0 [.inl x0] σ (some (.inl R)) σ := by
  refine ab_M_intro ndC (by decide) (Nat.le_of_ble_eq_true rfl) ?_
  intro p e s m args below meth c D cA ad C
  have C : ab_C yC p s m args meth c D cA ad cX0_isKind 1 RX0 (some .boolean) := C
  refine ab_weak (lv' := [some (.inl x0)]) ⟨.inr rfl, trivial⟩ ?_
  refine ab_iload_n C dX0_isKind_0 rfl ?_
  refine ab_if_lt C (tgt := 14) dX0_isKind_1 (by decide) (fun hc1 => ?_) (fun hc1 => ?_)
  · replace h := ab_pos hc1 h
    refine ab_weak (lv' := [none]) ⟨.inl rfl, trivial⟩ ?_
    exact gX0_isKind_b14 C h
  · replace h := ab_neg hc1 h
    refine ab_iload_n C dX0_isKind_4 rfl ?_
    refine ab_bipush C dX0_isKind_5 (v := 8) rfl ?_
    refine ab_icmp_ge C (tgt := 14) dX0_isKind_7 (by decide) (fun hc2 => ?_) (fun hc2 => ?_)
    · replace h := ab_pos hc2 h
      refine ab_weak (lv' := [none]) ⟨.inl rfl, trivial⟩ ?_
      exact gX0_isKind_b14 C h
    · replace h := ab_neg hc2 h
      refine ab_iconst C dX0_isKind_10 (v := 1) rfl ?_
      refine ab_goto C (tgt := 15) dX0_isKind_11 (by decide) ?_
      refine ab_weak (lv' := [none]) ⟨.inl rfl, trivial⟩ ?_
      exact gX0_isKind_b15 C _ h
end
def fX0_note_b26 (σ : ab_S) : Option ab_S := ab_k (ab_si σ 36 0 3 ((σ.1 36 0 3) + 1)) fun σ1 => some σ1
def fX0_note (x1 : Int32) (σ : ab_S) : Option ab_S := (if (σ.1 36 0 3) < 0 then fX0_note_b26 σ else (if 24 ≤ (σ.1 36 0 3) then fX0_note_b26 σ else (if ab_inb (σ.1 36 0 3) 24 = true then ab_k (ab_si σ 38 0 ((σ.1 36 0 3).toNatClampNeg) x1) fun σ4 => fX0_note_b26 σ4 else none)))
section
variable {p : Program} {l : Launch} {e : Env} {s : State} {m : MethodId} {args : Array Value} {below : List Frame} {meth : Method} {c : Code} {D : va_G} {cA : Nat → ClassId} {ad : Nat → Nat → Nat}
set_option maxRecDepth 100000 in
set_option maxHeartbeats 4000000 in
theorem gX0_note_b26 {R : ab_S} (C : ab_C yC p s m args meth c D cA ad cX0_note 2 RX0 none) (σ : ab_S) (h : fX0_note_b26 σ = some R) : ab_G yC p l e s m args below meth c D cA ad 2 0 none R 26 [some (.inr (.inr (36, 0))), none] [] σ := by
  refine ab_aload_n C dX0_note_26 rfl ?_
  refine ab_dup C dX0_note_27 rfl ?_
  refine ab_getI C dX0_note_28 flX0_40 rkC_36 rfl mmC_36 ?_
  refine ab_iconst C dX0_note_31 (v := 1) rfl ?_
  refine ab_iadd C dX0_note_32  ?_
  refine ab_putI C dX0_note_33 fpX0_40 rkC_36 rfl mmC_36 rfl rfl ?_
  refine ab_nmS (fun σ1 eσ1 => ?_)
  replace h := ab_kh eσ1 h
  obtain rfl := Option.some.inj h
  exact ab_vret C dX0_note_36
set_option maxRecDepth 100000 in
set_option maxHeartbeats 4000000 in
theorem tX0_note (l : Launch) (x1 : Int32) (σ : ab_S) {R : ab_S} (h : fX0_note x1 σ = some R) : ab_M l yC yX0_note cX0_note 2 none 0 [.inr (.inr (36, 0)), .inl x1] σ none R := by
  refine ab_M_intro ndC (by decide) (Nat.le_of_ble_eq_true rfl) ?_
  intro p e s m args below meth c D cA ad C
  have C : ab_C yC p s m args meth c D cA ad cX0_note 2 RX0 none := C
  refine ab_weak (lv' := [some (.inr (.inr (36, 0))), some (.inl x1)]) ⟨.inr rfl, ⟨.inr rfl, trivial⟩⟩ ?_
  refine ab_aload_n C dX0_note_0 rfl ?_
  refine ab_getI C dX0_note_1 flX0_40 rkC_36 rfl mmC_36 ?_
  refine ab_if_lt C (tgt := 26) dX0_note_4 (by decide) (fun hc1 => ?_) (fun hc1 => ?_)
  · replace h := ab_pos hc1 h
    refine ab_weak (lv' := [some (.inr (.inr (36, 0))), none]) ⟨.inr rfl, ⟨.inl rfl, trivial⟩⟩ ?_
    exact gX0_note_b26 C _ h
  · replace h := ab_neg hc1 h
    refine ab_aload_n C dX0_note_7 rfl ?_
    refine ab_getI C dX0_note_8 flX0_40 rkC_36 rfl mmC_36 ?_
    refine ab_bipush C dX0_note_11 (v := 24) rfl ?_
    refine ab_icmp_ge C (tgt := 26) dX0_note_13 (by decide) (fun hc2 => ?_) (fun hc2 => ?_)
    · replace h := ab_pos hc2 h
      refine ab_weak (lv' := [some (.inr (.inr (36, 0))), none]) ⟨.inr rfl, ⟨.inl rfl, trivial⟩⟩ ?_
      exact gX0_note_b26 C _ h
    · replace h := ab_neg hc2 h
      refine ab_aload_n C dX0_note_16 rfl ?_
      refine ab_getR C dX0_note_17 flX0_15 rkC_36 rfl mmC_36 ?_
      refine ab_aload_n C dX0_note_20 rfl ?_
      refine ab_getI C dX0_note_21 flX0_40 rkC_36 rfl mmC_36 ?_
      refine ab_iload_n C dX0_note_24 rfl ?_
      obtain ⟨hg3, h⟩ := ab_grd h
      refine ab_iast C dX0_note_25 rkC_38 mmC_38 hg3 ?_
      refine ab_nmS (fun σ4 eσ4 => ?_)
      replace h := ab_kh eσ4 h
      refine ab_weak (lv' := [some (.inr (.inr (36, 0))), none]) ⟨.inr rfl, ⟨.inl rfl, trivial⟩⟩ ?_
      exact gX0_note_b26 C _ h
end
def fX0_answer_o (rc0 : Int32 → Int32 → Int32 → Int32 → ab_S → Option (Int32 × ab_S)) (rc1 : Int32 → Int32 → Int32 → Int32 → ab_S → Option (Int32 × ab_S)) (x1 : Int32) (x2 : Int32) (x3 : Int32) (x4 : Int32) (σ : ab_S) : Option (Int32 × ab_S) := (if x1 = 1 then some (x3 + (σ.1 36 0 4), σ) else (if x1 = 2 then (rc1 (σ.1 36 0 5) 1 x3 x4 σ).bind fun q3 => (rc1 (q3.2.1 36 0 5) 2 1 x4 q3.2).bind fun q4 => some (q3.1 - q4.1, q4.2) else (if x1 = 10 then (rc1 (σ.1 36 0 5) 0 x3 x4 σ).bind fun q6 => some (q6.1 * 2, q6.2) else (if x1 = 11 then some (x3 ^^^ (σ.1 36 0 4), σ) else (if x1 = 20 then (rc1 x2 0 x3 x4 σ).bind fun q9 => some (q9.1 + 3, q9.2) else (if x1 = 30 then (rc1 x2 1 x3 x4 σ).bind fun q11 => some (-q11.1, q11.2) else (if x1 = 40 then (rc1 x2 2 x3 x4 σ).bind fun q13 => some (q13.1 * 3, q13.2) else (if x1 = 41 then (rc1 x2 1 (x3 + 1) x4 σ).bind fun q15 => some (q15.1, q15.2) else (if x1 = 50 then (rc1 x2 2 x3 x4 σ).bind fun q17 => (rc1 (q17.2.1 36 0 5) 0 2 x4 q17.2).bind fun q18 => some (q17.1 - q18.1, q18.2) else (if x1 = 60 then (rc1 x2 3 x3 x4 σ).bind fun q20 => some (q20.1 ^^^ 5, q20.2) else (if x1 = 70 then (rc1 x2 0 x3 x4 σ).bind fun q22 => some (q22.1 * 2, q22.2) else (if x1 = 80 then (rc1 x2 1 x3 x4 σ).bind fun q24 => (rc1 (q24.2.1 36 0 5) 2 2 x4 q24.2).bind fun q25 => some (q24.1 + q25.1, q25.2) else (if x1 = 81 then (rc1 x2 3 x3 x4 σ).bind fun q27 => some (q27.1 - 1, q27.2) else some (0, σ))))))))))))))
def fX0_run_b85 (rc0 : Int32 → Int32 → Int32 → Int32 → ab_S → Option (Int32 × ab_S)) (rc1 : Int32 → Int32 → Int32 → Int32 → ab_S → Option (Int32 × ab_S)) (σ : ab_S) : Option (Int32 × ab_S) := some (0, σ)
def fX0_run_b15_o (rc0 : Int32 → Int32 → Int32 → Int32 → ab_S → Option (Int32 × ab_S)) (rc1 : Int32 → Int32 → Int32 → Int32 → ab_S → Option (Int32 × ab_S)) (kk15 : Int32 → Int32 → Int32 → Int32 → Int32 → ab_S → Option (Int32 × ab_S)) (v2 : Int32) (v3 : Int32) (v4 : Int32) (v5 : Int32) (v6 : Int32) (σ : ab_S) : Option (Int32 × ab_S) := (if 8 ≤ v6 then fX0_run_b85 rc0 rc1 σ else (fX0_isKind v5).bind fun q2 => (if q2 = 0 then fX0_run_b85 rc0 rc1 σ else (if ab_inb ((4 * v5) + v2) 32 = true then (if (svC_50 ((4 * v5) + v2).toNatClampNeg) = 0 then (if ab_inb v5 8 = true then kk15 v2 v3 v4 (svC_51 v5.toNatClampNeg) (v6 + 1) σ else none) else (fX0_note (svC_50 ((4 * v5) + v2).toNatClampNeg) σ).bind fun q7 => (if ab_inb v5 8 = true then (rc0 (svC_50 ((4 * v5) + v2).toNatClampNeg) (svC_51 v5.toNatClampNeg) v3 (v4 + 1) q7).bind fun q9 => some (q9.1, q9.2) else none)) else none)))
def fX0_run_b15 (rc0 : Int32 → Int32 → Int32 → Int32 → ab_S → Option (Int32 × ab_S)) (rc1 : Int32 → Int32 → Int32 → Int32 → ab_S → Option (Int32 × ab_S)) : Nat → Int32 → Int32 → Int32 → Int32 → Int32 → ab_S → Option (Int32 × ab_S)
  | 0 => fun _ _ _ _ _ _ => none
  | n + 1 => fX0_run_b15_o rc0 rc1 (fX0_run_b15 rc0 rc1 n)
def fX0_run_o (rc0 : Int32 → Int32 → Int32 → Int32 → ab_S → Option (Int32 × ab_S)) (rc1 : Int32 → Int32 → Int32 → Int32 → ab_S → Option (Int32 × ab_S)) (x1 : Int32) (x2 : Int32) (x3 : Int32) (x4 : Int32) (σ : ab_S) : Option (Int32 × ab_S) := (if x4 ≤ 40 then fX0_run_b15 rc0 rc1 ab_N x2 x3 x4 x1 0 σ else some (0, σ))
def fzX0_answer : Nat → (Int32 → Int32 → Int32 → Int32 → ab_S → Option (Int32 × ab_S)) × (Int32 → Int32 → Int32 → Int32 → ab_S → Option (Int32 × ab_S))
  | 0 => (fun _ _ _ _ _ => none, fun _ _ _ _ _ => none)
  | n + 1 => (fX0_answer_o ((fzX0_answer n).1) ((fzX0_answer n).2), fX0_run_o ((fzX0_answer n).1) ((fzX0_answer n).2))
def fX0_answer (n : Nat) (x1 : Int32) (x2 : Int32) (x3 : Int32) (x4 : Int32) (σ : ab_S) : Option (Int32 × ab_S) := (fzX0_answer n).1 x1 x2 x3 x4 σ
def fX0_run (n : Nat) (x1 : Int32) (x2 : Int32) (x3 : Int32) (x4 : Int32) (σ : ab_S) : Option (Int32 × ab_S) := (fzX0_answer n).2 x1 x2 x3 x4 σ
section
variable {p : Program} {l : Launch} {e : Env} {s : State} {m : MethodId} {args : Array Value} {below : List Frame} {meth : Method} {c : Code} {D : va_G} {cA : Nat → ClassId} {ad : Nat → Nat → Nat}
set_option maxRecDepth 100000 in
set_option maxHeartbeats 4000000 in
theorem tX0_answer_o (l : Launch) {n : Nat} {rc0 : Int32 → Int32 → Int32 → Int32 → ab_S → Option (Int32 × ab_S)} {rc1 : Int32 → Int32 → Int32 → Int32 → ab_S → Option (Int32 × ab_S)} (hrec : (∀ (x1 : Int32) (x2 : Int32) (x3 : Int32) (x4 : Int32) (σ : ab_S), ∀ (R : (Int32 × ab_S)), rc0 x1 x2 x3 x4 σ = some R → ab_M l yC yX0_answer cX0_answer 5 (some .int) (1 + n) [.inr (.inr (36, 0)), .inl x1, .inl x2, .inl x3, .inl x4] σ (some (.inl R.1)) R.2) ∧ (∀ (x1 : Int32) (x2 : Int32) (x3 : Int32) (x4 : Int32) (σ : ab_S), ∀ (R : (Int32 × ab_S)), rc1 x1 x2 x3 x4 σ = some R → ab_M l yC yX0_run cX0_run 8 (some .int) (1 + n) [.inr (.inr (36, 0)), .inl x1, .inl x2, .inl x3, .inl x4] σ (some (.inl R.1)) R.2)) (x1 : Int32) (x2 : Int32) (x3 : Int32) (x4 : Int32) (σ : ab_S) {R : (Int32 × ab_S)} (h : fX0_answer_o rc0 rc1 x1 x2 x3 x4 σ = some R) : ab_M l yC yX0_answer cX0_answer 5 (some .int) (1 + n + 1) [.inr (.inr (36, 0)), .inl x1, .inl x2, .inl x3, .inl x4] σ (some (.inl R.1)) R.2 := by
  refine ab_M_intro ndC (by decide) (Nat.le_of_ble_eq_true rfl) ?_
  intro p e s m args below meth c D cA ad C
  have C : ab_C yC p s m args meth c D cA ad cX0_answer 5 RX0 (some .int) := C
  refine ab_weak (lv' := [some (.inr (.inr (36, 0))), some (.inl x1), some (.inl x2), some (.inl x3), some (.inl x4)]) ⟨.inr rfl, ⟨.inr rfl, ⟨.inr rfl, ⟨.inr rfl, ⟨.inr rfl, trivial⟩⟩⟩⟩⟩ ?_
  refine ab_iload_n C dX0_answer_0 rfl ?_
  by_cases hc1 : x1 = 1
  · replace h := ab_pos hc1 h
    refine ab_lsw C (off := 115) (tgt := 116) dX0_answer_1.1 (by decide) (by rw [hc1]; decide) (by decide) ?_
    refine ab_iload_n C dX0_answer_116 rfl ?_
    refine ab_aload_n C dX0_answer_117 rfl ?_
    refine ab_getI C dX0_answer_118 flX0_43 rkC_36 rfl mmC_36 ?_
    refine ab_iadd C dX0_answer_121  ?_
    obtain rfl := Option.some.inj h
    exact ab_iret C dX0_answer_122
  · replace h := ab_neg hc1 h
    by_cases hc2 : x1 = 2
    · replace h := ab_pos hc2 h
      refine ab_lsw C (off := 122) (tgt := 123) dX0_answer_1.1 (by decide) (by rw [hc2]; decide) (by decide) ?_
      refine ab_aload_n C dX0_answer_123 rfl ?_
      refine ab_aload_n C dX0_answer_124 rfl ?_
      refine ab_getI C dX0_answer_125 flX0_46 rkC_36 rfl mmC_36 ?_
      refine ab_iconst C dX0_answer_128 (v := 1) rfl ?_
      refine ab_iload_n C dX0_answer_129 rfl ?_
      refine ab_iload C dX0_answer_130 rfl ?_
      obtain ⟨q3, hq3, h⟩ := ab_bind h
      refine ab_inv1 C dX0_answer_132 mlX0_49 yvX0_run rkC_36 ⟨_, _, rfl⟩ mmC_36 (hrec.2 _ _ _ _ _ _ hq3) (by omega) (Nat.le_of_ble_eq_true rfl) rfl (Nat.le_of_ble_eq_true rfl) ?_
      refine ab_aload_n C dX0_answer_135 rfl ?_
      refine ab_aload_n C dX0_answer_136 rfl ?_
      refine ab_getI C dX0_answer_137 flX0_46 rkC_36 rfl mmC_36 ?_
      refine ab_iconst C dX0_answer_140 (v := 2) rfl ?_
      refine ab_iconst C dX0_answer_141 (v := 1) rfl ?_
      refine ab_iload C dX0_answer_142 rfl ?_
      obtain ⟨q4, hq4, h⟩ := ab_bind h
      refine ab_inv1 C dX0_answer_144 mlX0_49 yvX0_run rkC_36 ⟨_, _, rfl⟩ mmC_36 (hrec.2 _ _ _ _ _ _ hq4) (by omega) (Nat.le_of_ble_eq_true rfl) rfl (Nat.le_of_ble_eq_true rfl) ?_
      refine ab_isub C dX0_answer_147  ?_
      obtain rfl := Option.some.inj h
      exact ab_iret C dX0_answer_148
    · replace h := ab_neg hc2 h
      by_cases hc5 : x1 = 10
      · replace h := ab_pos hc5 h
        refine ab_lsw C (off := 148) (tgt := 149) dX0_answer_1.1 (by decide) (by rw [hc5]; decide) (by decide) ?_
        refine ab_aload_n C dX0_answer_149 rfl ?_
        refine ab_aload_n C dX0_answer_150 rfl ?_
        refine ab_getI C dX0_answer_151 flX0_46 rkC_36 rfl mmC_36 ?_
        refine ab_iconst C dX0_answer_154 (v := 0) rfl ?_
        refine ab_iload_n C dX0_answer_155 rfl ?_
        refine ab_iload C dX0_answer_156 rfl ?_
        obtain ⟨q6, hq6, h⟩ := ab_bind h
        refine ab_inv1 C dX0_answer_158 mlX0_49 yvX0_run rkC_36 ⟨_, _, rfl⟩ mmC_36 (hrec.2 _ _ _ _ _ _ hq6) (by omega) (Nat.le_of_ble_eq_true rfl) rfl (Nat.le_of_ble_eq_true rfl) ?_
        refine ab_iconst C dX0_answer_161 (v := 2) rfl ?_
        refine ab_imul C dX0_answer_162  ?_
        obtain rfl := Option.some.inj h
        exact ab_iret C dX0_answer_163
      · replace h := ab_neg hc5 h
        by_cases hc7 : x1 = 11
        · replace h := ab_pos hc7 h
          refine ab_lsw C (off := 163) (tgt := 164) dX0_answer_1.1 (by decide) (by rw [hc7]; decide) (by decide) ?_
          refine ab_iload_n C dX0_answer_164 rfl ?_
          refine ab_aload_n C dX0_answer_165 rfl ?_
          refine ab_getI C dX0_answer_166 flX0_43 rkC_36 rfl mmC_36 ?_
          refine ab_ixor C dX0_answer_169  ?_
          obtain rfl := Option.some.inj h
          exact ab_iret C dX0_answer_170
        · replace h := ab_neg hc7 h
          by_cases hc8 : x1 = 20
          · replace h := ab_pos hc8 h
            refine ab_lsw C (off := 170) (tgt := 171) dX0_answer_1.1 (by decide) (by rw [hc8]; decide) (by decide) ?_
            refine ab_aload_n C dX0_answer_171 rfl ?_
            refine ab_iload_n C dX0_answer_172 rfl ?_
            refine ab_iconst C dX0_answer_173 (v := 0) rfl ?_
            refine ab_iload_n C dX0_answer_174 rfl ?_
            refine ab_iload C dX0_answer_175 rfl ?_
            obtain ⟨q9, hq9, h⟩ := ab_bind h
            refine ab_inv1 C dX0_answer_177 mlX0_49 yvX0_run rkC_36 ⟨_, _, rfl⟩ mmC_36 (hrec.2 _ _ _ _ _ _ hq9) (by omega) (Nat.le_of_ble_eq_true rfl) rfl (Nat.le_of_ble_eq_true rfl) ?_
            refine ab_iconst C dX0_answer_180 (v := 3) rfl ?_
            refine ab_iadd C dX0_answer_181  ?_
            obtain rfl := Option.some.inj h
            exact ab_iret C dX0_answer_182
          · replace h := ab_neg hc8 h
            by_cases hc10 : x1 = 30
            · replace h := ab_pos hc10 h
              refine ab_lsw C (off := 182) (tgt := 183) dX0_answer_1.1 (by decide) (by rw [hc10]; decide) (by decide) ?_
              refine ab_aload_n C dX0_answer_183 rfl ?_
              refine ab_iload_n C dX0_answer_184 rfl ?_
              refine ab_iconst C dX0_answer_185 (v := 1) rfl ?_
              refine ab_iload_n C dX0_answer_186 rfl ?_
              refine ab_iload C dX0_answer_187 rfl ?_
              obtain ⟨q11, hq11, h⟩ := ab_bind h
              refine ab_inv1 C dX0_answer_189 mlX0_49 yvX0_run rkC_36 ⟨_, _, rfl⟩ mmC_36 (hrec.2 _ _ _ _ _ _ hq11) (by omega) (Nat.le_of_ble_eq_true rfl) rfl (Nat.le_of_ble_eq_true rfl) ?_
              refine ab_ineg C dX0_answer_192  ?_
              obtain rfl := Option.some.inj h
              exact ab_iret C dX0_answer_193
            · replace h := ab_neg hc10 h
              by_cases hc12 : x1 = 40
              · replace h := ab_pos hc12 h
                refine ab_lsw C (off := 193) (tgt := 194) dX0_answer_1.1 (by decide) (by rw [hc12]; decide) (by decide) ?_
                refine ab_aload_n C dX0_answer_194 rfl ?_
                refine ab_iload_n C dX0_answer_195 rfl ?_
                refine ab_iconst C dX0_answer_196 (v := 2) rfl ?_
                refine ab_iload_n C dX0_answer_197 rfl ?_
                refine ab_iload C dX0_answer_198 rfl ?_
                obtain ⟨q13, hq13, h⟩ := ab_bind h
                refine ab_inv1 C dX0_answer_200 mlX0_49 yvX0_run rkC_36 ⟨_, _, rfl⟩ mmC_36 (hrec.2 _ _ _ _ _ _ hq13) (by omega) (Nat.le_of_ble_eq_true rfl) rfl (Nat.le_of_ble_eq_true rfl) ?_
                refine ab_iconst C dX0_answer_203 (v := 3) rfl ?_
                refine ab_imul C dX0_answer_204  ?_
                obtain rfl := Option.some.inj h
                exact ab_iret C dX0_answer_205
              · replace h := ab_neg hc12 h
                by_cases hc14 : x1 = 41
                · replace h := ab_pos hc14 h
                  refine ab_lsw C (off := 205) (tgt := 206) dX0_answer_1.1 (by decide) (by rw [hc14]; decide) (by decide) ?_
                  refine ab_aload_n C dX0_answer_206 rfl ?_
                  refine ab_iload_n C dX0_answer_207 rfl ?_
                  refine ab_iconst C dX0_answer_208 (v := 1) rfl ?_
                  refine ab_iload_n C dX0_answer_209 rfl ?_
                  refine ab_iconst C dX0_answer_210 (v := 1) rfl ?_
                  refine ab_iadd C dX0_answer_211  ?_
                  refine ab_iload C dX0_answer_212 rfl ?_
                  obtain ⟨q15, hq15, h⟩ := ab_bind h
                  refine ab_inv1 C dX0_answer_214 mlX0_49 yvX0_run rkC_36 ⟨_, _, rfl⟩ mmC_36 (hrec.2 _ _ _ _ _ _ hq15) (by omega) (Nat.le_of_ble_eq_true rfl) rfl (Nat.le_of_ble_eq_true rfl) ?_
                  obtain rfl := Option.some.inj h
                  exact ab_iret C dX0_answer_217
                · replace h := ab_neg hc14 h
                  by_cases hc16 : x1 = 50
                  · replace h := ab_pos hc16 h
                    refine ab_lsw C (off := 217) (tgt := 218) dX0_answer_1.1 (by decide) (by rw [hc16]; decide) (by decide) ?_
                    refine ab_aload_n C dX0_answer_218 rfl ?_
                    refine ab_iload_n C dX0_answer_219 rfl ?_
                    refine ab_iconst C dX0_answer_220 (v := 2) rfl ?_
                    refine ab_iload_n C dX0_answer_221 rfl ?_
                    refine ab_iload C dX0_answer_222 rfl ?_
                    obtain ⟨q17, hq17, h⟩ := ab_bind h
                    refine ab_inv1 C dX0_answer_224 mlX0_49 yvX0_run rkC_36 ⟨_, _, rfl⟩ mmC_36 (hrec.2 _ _ _ _ _ _ hq17) (by omega) (Nat.le_of_ble_eq_true rfl) rfl (Nat.le_of_ble_eq_true rfl) ?_
                    refine ab_aload_n C dX0_answer_227 rfl ?_
                    refine ab_aload_n C dX0_answer_228 rfl ?_
                    refine ab_getI C dX0_answer_229 flX0_46 rkC_36 rfl mmC_36 ?_
                    refine ab_iconst C dX0_answer_232 (v := 0) rfl ?_
                    refine ab_iconst C dX0_answer_233 (v := 2) rfl ?_
                    refine ab_iload C dX0_answer_234 rfl ?_
                    obtain ⟨q18, hq18, h⟩ := ab_bind h
                    refine ab_inv1 C dX0_answer_236 mlX0_49 yvX0_run rkC_36 ⟨_, _, rfl⟩ mmC_36 (hrec.2 _ _ _ _ _ _ hq18) (by omega) (Nat.le_of_ble_eq_true rfl) rfl (Nat.le_of_ble_eq_true rfl) ?_
                    refine ab_isub C dX0_answer_239  ?_
                    obtain rfl := Option.some.inj h
                    exact ab_iret C dX0_answer_240
                  · replace h := ab_neg hc16 h
                    by_cases hc19 : x1 = 60
                    · replace h := ab_pos hc19 h
                      refine ab_lsw C (off := 240) (tgt := 241) dX0_answer_1.1 (by decide) (by rw [hc19]; decide) (by decide) ?_
                      refine ab_aload_n C dX0_answer_241 rfl ?_
                      refine ab_iload_n C dX0_answer_242 rfl ?_
                      refine ab_iconst C dX0_answer_243 (v := 3) rfl ?_
                      refine ab_iload_n C dX0_answer_244 rfl ?_
                      refine ab_iload C dX0_answer_245 rfl ?_
                      obtain ⟨q20, hq20, h⟩ := ab_bind h
                      refine ab_inv1 C dX0_answer_247 mlX0_49 yvX0_run rkC_36 ⟨_, _, rfl⟩ mmC_36 (hrec.2 _ _ _ _ _ _ hq20) (by omega) (Nat.le_of_ble_eq_true rfl) rfl (Nat.le_of_ble_eq_true rfl) ?_
                      refine ab_iconst C dX0_answer_250 (v := 5) rfl ?_
                      refine ab_ixor C dX0_answer_251  ?_
                      obtain rfl := Option.some.inj h
                      exact ab_iret C dX0_answer_252
                    · replace h := ab_neg hc19 h
                      by_cases hc21 : x1 = 70
                      · replace h := ab_pos hc21 h
                        refine ab_lsw C (off := 252) (tgt := 253) dX0_answer_1.1 (by decide) (by rw [hc21]; decide) (by decide) ?_
                        refine ab_aload_n C dX0_answer_253 rfl ?_
                        refine ab_iload_n C dX0_answer_254 rfl ?_
                        refine ab_iconst C dX0_answer_255 (v := 0) rfl ?_
                        refine ab_iload_n C dX0_answer_256 rfl ?_
                        refine ab_iload C dX0_answer_257 rfl ?_
                        obtain ⟨q22, hq22, h⟩ := ab_bind h
                        refine ab_inv1 C dX0_answer_259 mlX0_49 yvX0_run rkC_36 ⟨_, _, rfl⟩ mmC_36 (hrec.2 _ _ _ _ _ _ hq22) (by omega) (Nat.le_of_ble_eq_true rfl) rfl (Nat.le_of_ble_eq_true rfl) ?_
                        refine ab_iconst C dX0_answer_262 (v := 2) rfl ?_
                        refine ab_imul C dX0_answer_263  ?_
                        obtain rfl := Option.some.inj h
                        exact ab_iret C dX0_answer_264
                      · replace h := ab_neg hc21 h
                        by_cases hc23 : x1 = 80
                        · replace h := ab_pos hc23 h
                          refine ab_lsw C (off := 264) (tgt := 265) dX0_answer_1.1 (by decide) (by rw [hc23]; decide) (by decide) ?_
                          refine ab_aload_n C dX0_answer_265 rfl ?_
                          refine ab_iload_n C dX0_answer_266 rfl ?_
                          refine ab_iconst C dX0_answer_267 (v := 1) rfl ?_
                          refine ab_iload_n C dX0_answer_268 rfl ?_
                          refine ab_iload C dX0_answer_269 rfl ?_
                          obtain ⟨q24, hq24, h⟩ := ab_bind h
                          refine ab_inv1 C dX0_answer_271 mlX0_49 yvX0_run rkC_36 ⟨_, _, rfl⟩ mmC_36 (hrec.2 _ _ _ _ _ _ hq24) (by omega) (Nat.le_of_ble_eq_true rfl) rfl (Nat.le_of_ble_eq_true rfl) ?_
                          refine ab_aload_n C dX0_answer_274 rfl ?_
                          refine ab_aload_n C dX0_answer_275 rfl ?_
                          refine ab_getI C dX0_answer_276 flX0_46 rkC_36 rfl mmC_36 ?_
                          refine ab_iconst C dX0_answer_279 (v := 2) rfl ?_
                          refine ab_iconst C dX0_answer_280 (v := 2) rfl ?_
                          refine ab_iload C dX0_answer_281 rfl ?_
                          obtain ⟨q25, hq25, h⟩ := ab_bind h
                          refine ab_inv1 C dX0_answer_283 mlX0_49 yvX0_run rkC_36 ⟨_, _, rfl⟩ mmC_36 (hrec.2 _ _ _ _ _ _ hq25) (by omega) (Nat.le_of_ble_eq_true rfl) rfl (Nat.le_of_ble_eq_true rfl) ?_
                          refine ab_iadd C dX0_answer_286  ?_
                          obtain rfl := Option.some.inj h
                          exact ab_iret C dX0_answer_287
                        · replace h := ab_neg hc23 h
                          by_cases hc26 : x1 = 81
                          · replace h := ab_pos hc26 h
                            refine ab_lsw C (off := 287) (tgt := 288) dX0_answer_1.1 (by decide) (by rw [hc26]; decide) (by decide) ?_
                            refine ab_aload_n C dX0_answer_288 rfl ?_
                            refine ab_iload_n C dX0_answer_289 rfl ?_
                            refine ab_iconst C dX0_answer_290 (v := 3) rfl ?_
                            refine ab_iload_n C dX0_answer_291 rfl ?_
                            refine ab_iload C dX0_answer_292 rfl ?_
                            obtain ⟨q27, hq27, h⟩ := ab_bind h
                            refine ab_inv1 C dX0_answer_294 mlX0_49 yvX0_run rkC_36 ⟨_, _, rfl⟩ mmC_36 (hrec.2 _ _ _ _ _ _ hq27) (by omega) (Nat.le_of_ble_eq_true rfl) rfl (Nat.le_of_ble_eq_true rfl) ?_
                            refine ab_iconst C dX0_answer_297 (v := 1) rfl ?_
                            refine ab_isub C dX0_answer_298  ?_
                            obtain rfl := Option.some.inj h
                            exact ab_iret C dX0_answer_299
                          · replace h := ab_neg hc26 h
                            refine ab_lsw C (off := 299) (tgt := 300) dX0_answer_1.1 (by decide) (by show Op.lookupswitch.offset [(1, 115), (2, 122), (10, 148), (11, 163), (20, 170), (30, 182), (40, 193), (41, 205), (50, 217), (60, 240), (70, 252), (80, 264), (81, 287)] 299 _ = 299; rw [lv_osw hc1 (by decide), lv_osw hc2 (by decide), lv_osw hc5 (by decide), lv_osw hc7 (by decide), lv_osw hc8 (by decide), lv_osw hc10 (by decide), lv_osw hc12 (by decide), lv_osw hc14 (by decide), lv_osw hc16 (by decide), lv_osw hc19 (by decide), lv_osw hc21 (by decide), lv_osw hc23 (by decide), lv_osw hc26 (by decide)]; rfl) (by decide) ?_
                            refine ab_iconst C dX0_answer_300 (v := 0) rfl ?_
                            obtain rfl := Option.some.inj h
                            exact ab_iret C dX0_answer_301
end
section
variable {p : Program} {l : Launch} {e : Env} {s : State} {m : MethodId} {args : Array Value} {below : List Frame} {meth : Method} {c : Code} {D : va_G} {cA : Nat → ClassId} {ad : Nat → Nat → Nat}
set_option maxRecDepth 100000 in
set_option maxHeartbeats 4000000 in
theorem gX0_run_b85 {n : Nat} {R : (Int32 × ab_S)} {rc0 : Int32 → Int32 → Int32 → Int32 → ab_S → Option (Int32 × ab_S)} {rc1 : Int32 → Int32 → Int32 → Int32 → ab_S → Option (Int32 × ab_S)} (C : ab_C yC p s m args meth c D cA ad cX0_run 8 RX0 (some .int)) (hrec : (∀ (x1 : Int32) (x2 : Int32) (x3 : Int32) (x4 : Int32) (σ : ab_S), ∀ (R : (Int32 × ab_S)), rc0 x1 x2 x3 x4 σ = some R → ab_M l yC yX0_answer cX0_answer 5 (some .int) (1 + n) [.inr (.inr (36, 0)), .inl x1, .inl x2, .inl x3, .inl x4] σ (some (.inl R.1)) R.2) ∧ (∀ (x1 : Int32) (x2 : Int32) (x3 : Int32) (x4 : Int32) (σ : ab_S), ∀ (R : (Int32 × ab_S)), rc1 x1 x2 x3 x4 σ = some R → ab_M l yC yX0_run cX0_run 8 (some .int) (1 + n) [.inr (.inr (36, 0)), .inl x1, .inl x2, .inl x3, .inl x4] σ (some (.inl R.1)) R.2)) (σ : ab_S) (h : fX0_run_b85 rc0 rc1 σ = some R) : ab_G yC p l e s m args below meth c D cA ad 8 (1 + n + 1) (some (.inl R.1)) R.2 85 [none, none, none, none, none, none, none, none] [] σ := by
  refine ab_iconst C dX0_run_85 (v := 0) rfl ?_
  obtain rfl := Option.some.inj h
  exact ab_iret C dX0_run_86
set_option maxRecDepth 100000 in
set_option maxHeartbeats 4000000 in
theorem gX0_run_b15_o {n : Nat} {R : (Int32 × ab_S)} {rc0 : Int32 → Int32 → Int32 → Int32 → ab_S → Option (Int32 × ab_S)} {rc1 : Int32 → Int32 → Int32 → Int32 → ab_S → Option (Int32 × ab_S)} (C : ab_C yC p s m args meth c D cA ad cX0_run 8 RX0 (some .int)) (hrec : (∀ (x1 : Int32) (x2 : Int32) (x3 : Int32) (x4 : Int32) (σ : ab_S), ∀ (R : (Int32 × ab_S)), rc0 x1 x2 x3 x4 σ = some R → ab_M l yC yX0_answer cX0_answer 5 (some .int) (1 + n) [.inr (.inr (36, 0)), .inl x1, .inl x2, .inl x3, .inl x4] σ (some (.inl R.1)) R.2) ∧ (∀ (x1 : Int32) (x2 : Int32) (x3 : Int32) (x4 : Int32) (σ : ab_S), ∀ (R : (Int32 × ab_S)), rc1 x1 x2 x3 x4 σ = some R → ab_M l yC yX0_run cX0_run 8 (some .int) (1 + n) [.inr (.inr (36, 0)), .inl x1, .inl x2, .inl x3, .inl x4] σ (some (.inl R.1)) R.2)) {kk15 : Int32 → Int32 → Int32 → Int32 → Int32 → ab_S → Option (Int32 × ab_S)} (hk15 : ∀ (v2 : Int32) (v3 : Int32) (v4 : Int32) (v5 : Int32) (v6 : Int32) (σ : ab_S), kk15 v2 v3 v4 v5 v6 σ = some R → ab_G yC p l e s m args below meth c D cA ad 8 (1 + n + 1) (some (.inl R.1)) R.2 15 [some (.inr (.inr (36, 0))), none, some (.inl v2), some (.inl v3), some (.inl v4), some (.inl v5), some (.inl v6), none] [] σ) (v2 : Int32) (v3 : Int32) (v4 : Int32) (v5 : Int32) (v6 : Int32) (σ : ab_S) (h : fX0_run_b15_o rc0 rc1 kk15 v2 v3 v4 v5 v6 σ = some R) : ab_G yC p l e s m args below meth c D cA ad 8 (1 + n + 1) (some (.inl R.1)) R.2 15 [some (.inr (.inr (36, 0))), none, some (.inl v2), some (.inl v3), some (.inl v4), some (.inl v5), some (.inl v6), none] [] σ := by
  refine ab_iload C dX0_run_15 rfl ?_
  refine ab_bipush C dX0_run_17 (v := 8) rfl ?_
  refine ab_icmp_ge C (tgt := 85) dX0_run_19 (by decide) (fun hc1 => ?_) (fun hc1 => ?_)
  · replace h := ab_pos hc1 h
    refine ab_weak (lv' := [none, none, none, none, none, none, none, none]) ⟨.inl rfl, ⟨.inl rfl, ⟨.inl rfl, ⟨.inl rfl, ⟨.inl rfl, ⟨.inl rfl, ⟨.inl rfl, ⟨.inl rfl, trivial⟩⟩⟩⟩⟩⟩⟩⟩ ?_
    exact gX0_run_b85 C hrec _ h
  · replace h := ab_neg hc1 h
    refine ab_iload C dX0_run_22 rfl ?_
    obtain ⟨q2, hq2, h⟩ := ab_bind h
    refine ab_invS1 C dX0_run_24 mlX0_34 ysX0_isKind (tX0_isKind l _ _ hq2) (by omega) (Nat.le_of_ble_eq_true rfl) rfl (Nat.le_of_ble_eq_true rfl) ?_
    refine ab_if_eq C (tgt := 85) dX0_run_27 (by decide) (fun hc3 => ?_) (fun hc3 => ?_)
    · replace h := ab_pos hc3 h
      refine ab_weak (lv' := [none, none, none, none, none, none, none, none]) ⟨.inl rfl, ⟨.inl rfl, ⟨.inl rfl, ⟨.inl rfl, ⟨.inl rfl, ⟨.inl rfl, ⟨.inl rfl, ⟨.inl rfl, trivial⟩⟩⟩⟩⟩⟩⟩⟩ ?_
      exact gX0_run_b85 C hrec _ h
    · replace h := ab_neg hc3 h
      refine ab_gets C dX0_run_30 zmC_50 fwX0_53 ?_
      refine ab_iconst C dX0_run_33 (v := 4) rfl ?_
      refine ab_iload C dX0_run_34 rfl ?_
      refine ab_imul C dX0_run_36  ?_
      refine ab_iload_n C dX0_run_37 rfl ?_
      refine ab_iadd C dX0_run_38  ?_
      obtain ⟨hg4, h⟩ := ab_grd h
      refine ab_sald C dX0_run_39 zmC_50 hg4 ?_
      refine ab_istore C dX0_run_40 (Nat.le_of_ble_eq_true rfl) ?_
      refine ab_iload C dX0_run_42 rfl ?_
      refine ab_if_eq C (tgt := 71) dX0_run_44 (by decide) (fun hc5 => ?_) (fun hc5 => ?_)
      · replace h := ab_pos hc5 h
        refine ab_gets C dX0_run_71 zmC_51 fwX0_37 ?_
        refine ab_iload C dX0_run_74 rfl ?_
        obtain ⟨hg6, h⟩ := ab_grd h
        refine ab_sald C dX0_run_76 zmC_51 hg6 ?_
        refine ab_istore C dX0_run_77 (Nat.le_of_ble_eq_true rfl) ?_
        refine ab_iinc C dX0_run_79 rfl (v := 1) rfl (Nat.le_of_ble_eq_true rfl) ?_
        refine ab_weak (lv' := [some (.inr (.inr (36, 0))), none, some (.inl v2), some (.inl v3), some (.inl v4), some (.inl (svC_51 v5.toNatClampNeg)), some (.inl (v6 + 1)), some (.inl (svC_50 ((4 * v5) + v2).toNatClampNeg))]) ⟨.inr rfl, ⟨.inl rfl, ⟨.inr rfl, ⟨.inr rfl, ⟨.inr rfl, ⟨.inr rfl, ⟨.inr rfl, ⟨.inr rfl, trivial⟩⟩⟩⟩⟩⟩⟩⟩ ?_
        refine ab_goto C (tgt := 15) dX0_run_82 (by decide) ?_
        refine ab_weak (lv' := [some (.inr (.inr (36, 0))), none, some (.inl v2), some (.inl v3), some (.inl v4), some (.inl (svC_51 v5.toNatClampNeg)), some (.inl (v6 + 1)), none]) ⟨.inr rfl, ⟨.inl rfl, ⟨.inr rfl, ⟨.inr rfl, ⟨.inr rfl, ⟨.inr rfl, ⟨.inr rfl, ⟨.inl rfl, trivial⟩⟩⟩⟩⟩⟩⟩⟩ ?_
        exact hk15 _ _ _ _ _ _ h
      · replace h := ab_neg hc5 h
        refine ab_aload_n C dX0_run_47 rfl ?_
        refine ab_iload C dX0_run_48 rfl ?_
        obtain ⟨q7, hq7, h⟩ := ab_bind h
        refine ab_inv0 C dX0_run_50 mlX0_56 yvX0_note rkC_36 ⟨_, _, rfl⟩ mmC_36 (tX0_note l _ _ hq7) (by omega) (Nat.le_of_ble_eq_true rfl) rfl (Nat.le_of_ble_eq_true rfl) ?_
        refine ab_aload_n C dX0_run_53 rfl ?_
        refine ab_iload C dX0_run_54 rfl ?_
        refine ab_gets C dX0_run_56 zmC_51 fwX0_37 ?_
        refine ab_iload C dX0_run_59 rfl ?_
        obtain ⟨hg8, h⟩ := ab_grd h
        refine ab_sald C dX0_run_61 zmC_51 hg8 ?_
        refine ab_iload_n C dX0_run_62 rfl ?_
        refine ab_iload C dX0_run_63 rfl ?_
        refine ab_iconst C dX0_run_65 (v := 1) rfl ?_
        refine ab_iadd C dX0_run_66  ?_
        obtain ⟨q9, hq9, h⟩ := ab_bind h
        refine ab_inv1 C dX0_run_67 mlX0_60 yvX0_answer rkC_36 ⟨_, _, rfl⟩ mmC_36 (hrec.1 _ _ _ _ _ _ hq9) (by omega) (Nat.le_of_ble_eq_true rfl) rfl (Nat.le_of_ble_eq_true rfl) ?_
        obtain rfl := Option.some.inj h
        exact ab_iret C dX0_run_70
theorem gX0_run_b15 {n : Nat} {R : (Int32 × ab_S)} {rc0 : Int32 → Int32 → Int32 → Int32 → ab_S → Option (Int32 × ab_S)} {rc1 : Int32 → Int32 → Int32 → Int32 → ab_S → Option (Int32 × ab_S)} (C : ab_C yC p s m args meth c D cA ad cX0_run 8 RX0 (some .int)) (hrec : (∀ (x1 : Int32) (x2 : Int32) (x3 : Int32) (x4 : Int32) (σ : ab_S), ∀ (R : (Int32 × ab_S)), rc0 x1 x2 x3 x4 σ = some R → ab_M l yC yX0_answer cX0_answer 5 (some .int) (1 + n) [.inr (.inr (36, 0)), .inl x1, .inl x2, .inl x3, .inl x4] σ (some (.inl R.1)) R.2) ∧ (∀ (x1 : Int32) (x2 : Int32) (x3 : Int32) (x4 : Int32) (σ : ab_S), ∀ (R : (Int32 × ab_S)), rc1 x1 x2 x3 x4 σ = some R → ab_M l yC yX0_run cX0_run 8 (some .int) (1 + n) [.inr (.inr (36, 0)), .inl x1, .inl x2, .inl x3, .inl x4] σ (some (.inl R.1)) R.2)) : ∀ (j : Nat) (v2 : Int32) (v3 : Int32) (v4 : Int32) (v5 : Int32) (v6 : Int32) (σ : ab_S), fX0_run_b15 rc0 rc1 j v2 v3 v4 v5 v6 σ = some R → ab_G yC p l e s m args below meth c D cA ad 8 (1 + n + 1) (some (.inl R.1)) R.2 15 [some (.inr (.inr (36, 0))), none, some (.inl v2), some (.inl v3), some (.inl v4), some (.inl v5), some (.inl v6), none] [] σ := by
  intro j
  induction j with
  | zero => intro v2 v3 v4 v5 v6 σ  h; cases h
  | succ j ih => intro v2 v3 v4 v5 v6 σ  h; exact gX0_run_b15_o C hrec ih _ _ _ _ _ _ h
set_option maxRecDepth 100000 in
set_option maxHeartbeats 4000000 in
theorem tX0_run_o (l : Launch) {n : Nat} {rc0 : Int32 → Int32 → Int32 → Int32 → ab_S → Option (Int32 × ab_S)} {rc1 : Int32 → Int32 → Int32 → Int32 → ab_S → Option (Int32 × ab_S)} (hrec : (∀ (x1 : Int32) (x2 : Int32) (x3 : Int32) (x4 : Int32) (σ : ab_S), ∀ (R : (Int32 × ab_S)), rc0 x1 x2 x3 x4 σ = some R → ab_M l yC yX0_answer cX0_answer 5 (some .int) (1 + n) [.inr (.inr (36, 0)), .inl x1, .inl x2, .inl x3, .inl x4] σ (some (.inl R.1)) R.2) ∧ (∀ (x1 : Int32) (x2 : Int32) (x3 : Int32) (x4 : Int32) (σ : ab_S), ∀ (R : (Int32 × ab_S)), rc1 x1 x2 x3 x4 σ = some R → ab_M l yC yX0_run cX0_run 8 (some .int) (1 + n) [.inr (.inr (36, 0)), .inl x1, .inl x2, .inl x3, .inl x4] σ (some (.inl R.1)) R.2)) (x1 : Int32) (x2 : Int32) (x3 : Int32) (x4 : Int32) (σ : ab_S) {R : (Int32 × ab_S)} (h : fX0_run_o rc0 rc1 x1 x2 x3 x4 σ = some R) : ab_M l yC yX0_run cX0_run 8 (some .int) (1 + n + 1) [.inr (.inr (36, 0)), .inl x1, .inl x2, .inl x3, .inl x4] σ (some (.inl R.1)) R.2 := by
  refine ab_M_intro ndC (by decide) (Nat.le_of_ble_eq_true rfl) ?_
  intro p e s m args below meth c D cA ad C
  have C : ab_C yC p s m args meth c D cA ad cX0_run 8 RX0 (some .int) := C
  refine ab_weak (lv' := [some (.inr (.inr (36, 0))), some (.inl x1), some (.inl x2), some (.inl x3), some (.inl x4), none, none, none]) ⟨.inr rfl, ⟨.inr rfl, ⟨.inr rfl, ⟨.inr rfl, ⟨.inr rfl, ⟨.inl rfl, ⟨.inl rfl, ⟨.inl rfl, trivial⟩⟩⟩⟩⟩⟩⟩⟩ ?_
  refine ab_iload C dX0_run_0 rfl ?_
  refine ab_bipush C dX0_run_2 (v := 40) rfl ?_
  refine ab_icmp_le C (tgt := 9) dX0_run_4 (by decide) (fun hc1 => ?_) (fun hc1 => ?_)
  · replace h := ab_pos hc1 h
    refine ab_iload_n C dX0_run_9 rfl ?_
    refine ab_istore C dX0_run_10 (Nat.le_of_ble_eq_true rfl) ?_
    refine ab_iconst C dX0_run_12 (v := 0) rfl ?_
    refine ab_istore C dX0_run_13 (Nat.le_of_ble_eq_true rfl) ?_
    refine ab_weak (lv' := [some (.inr (.inr (36, 0))), none, some (.inl x2), some (.inl x3), some (.inl x4), some (.inl x1), some (.inl 0), none]) ⟨.inr rfl, ⟨.inl rfl, ⟨.inr rfl, ⟨.inr rfl, ⟨.inr rfl, ⟨.inr rfl, ⟨.inr rfl, ⟨.inl rfl, trivial⟩⟩⟩⟩⟩⟩⟩⟩ ?_
    exact gX0_run_b15 C hrec ab_N _ _ _ _ _ _ h
  · replace h := ab_neg hc1 h
    refine ab_iconst C dX0_run_7 (v := 0) rfl ?_
    obtain rfl := Option.some.inj h
    exact ab_iret C dX0_run_8
end
theorem tzX0_answer (l : Launch) : ∀ n : Nat, (∀ (x1 : Int32) (x2 : Int32) (x3 : Int32) (x4 : Int32) (σ : ab_S), ∀ (R : (Int32 × ab_S)), fX0_answer n x1 x2 x3 x4 σ = some R → ab_M l yC yX0_answer cX0_answer 5 (some .int) (1 + n) [.inr (.inr (36, 0)), .inl x1, .inl x2, .inl x3, .inl x4] σ (some (.inl R.1)) R.2) ∧ (∀ (x1 : Int32) (x2 : Int32) (x3 : Int32) (x4 : Int32) (σ : ab_S), ∀ (R : (Int32 × ab_S)), fX0_run n x1 x2 x3 x4 σ = some R → ab_M l yC yX0_run cX0_run 8 (some .int) (1 + n) [.inr (.inr (36, 0)), .inl x1, .inl x2, .inl x3, .inl x4] σ (some (.inl R.1)) R.2) := by
  intro n
  induction n with
  | zero => exact ⟨fun _ _ _ _ _ _ h => (by cases h), fun _ _ _ _ _ _ h => (by cases h)⟩
  | succ n ih => exact ⟨fun a0 a1 a2 a3 a4 R h => tX0_answer_o l ih a0 a1 a2 a3 a4 h, fun a0 a1 a2 a3 a4 R h => tX0_run_o l ih a0 a1 a2 a3 a4 h⟩
theorem tX0_answer (n : Nat) (l : Launch) (x1 : Int32) (x2 : Int32) (x3 : Int32) (x4 : Int32) (σ : ab_S) {R : (Int32 × ab_S)} (h : fX0_answer n x1 x2 x3 x4 σ = some R) : ab_M l yC yX0_answer cX0_answer 5 (some .int) (1 + n) [.inr (.inr (36, 0)), .inl x1, .inl x2, .inl x3, .inl x4] σ (some (.inl R.1)) R.2 := (tzX0_answer l n).1 x1 x2 x3 x4 σ  R h
theorem tX0_run (n : Nat) (l : Launch) (x1 : Int32) (x2 : Int32) (x3 : Int32) (x4 : Int32) (σ : ab_S) {R : (Int32 × ab_S)} (h : fX0_run n x1 x2 x3 x4 σ = some R) : ab_M l yC yX0_run cX0_run 8 (some .int) (1 + n) [.inr (.inr (36, 0)), .inl x1, .inl x2, .inl x3, .inl x4] σ (some (.inl R.1)) R.2 := (tzX0_answer l n).2 x1 x2 x3 x4 σ  R h
def fX0_has_b23 (t0 : Int32) (σ : ab_S) : Option Int32 := (if ab_isb t0 = true then some t0 else none)
def fX0_has_b22 (σ : ab_S) : Option Int32 := fX0_has_b23 0 σ
def fX0_has (x1 : Int32) (σ : ab_S) : Option Int32 := (if x1 < 0 then fX0_has_b22 σ else (if (σ.1 36 0 2) ≤ x1 then fX0_has_b22 σ else (if 50 ≤ x1 then fX0_has_b22 σ else fX0_has_b23 1 σ)))
section
variable {p : Program} {l : Launch} {e : Env} {s : State} {m : MethodId} {args : Array Value} {below : List Frame} {meth : Method} {c : Code} {D : va_G} {cA : Nat → ClassId} {ad : Nat → Nat → Nat}
set_option maxRecDepth 100000 in
set_option maxHeartbeats 4000000 in
theorem gX0_has_b23 {R : Int32} (C : ab_C yC p s m args meth c D cA ad cX0_has 2 RX0 (some .boolean)) (σ : ab_S) (t0 : Int32) (h : fX0_has_b23 t0 σ = some R) : ab_G yC p l e s m args below meth c D cA ad 2 0 (some (.inl R)) σ 23 [none, none] [.inl t0] σ := by
  obtain ⟨hg1, h⟩ := ab_grd h
  obtain rfl := Option.some.inj h
  exact ab_zret C dX0_has_23 hg1
set_option maxRecDepth 100000 in
set_option maxHeartbeats 4000000 in
theorem gX0_has_b22 {R : Int32} (C : ab_C yC p s m args meth c D cA ad cX0_has 2 RX0 (some .boolean)) (σ : ab_S) (h : fX0_has_b22 σ = some R) : ab_G yC p l e s m args below meth c D cA ad 2 0 (some (.inl R)) σ 22 [none, none] [] σ := by
  refine ab_iconst C dX0_has_22 (v := 0) rfl ?_
  refine ab_weak (lv' := [none, none]) ⟨.inl rfl, ⟨.inl rfl, trivial⟩⟩ ?_
  exact gX0_has_b23 C _ _ h
set_option maxRecDepth 100000 in
set_option maxHeartbeats 4000000 in
theorem tX0_has (l : Launch) (x1 : Int32) (σ : ab_S) {R : Int32} (h : fX0_has x1 σ = some R) : ab_M l yC yX0_has cX0_has 2 (some .boolean) 0 [.inr (.inr (36, 0)), .inl x1] σ (some (.inl R)) σ := by
  refine ab_M_intro ndC (by decide) (Nat.le_of_ble_eq_true rfl) ?_
  intro p e s m args below meth c D cA ad C
  have C : ab_C yC p s m args meth c D cA ad cX0_has 2 RX0 (some .boolean) := C
  refine ab_weak (lv' := [some (.inr (.inr (36, 0))), some (.inl x1)]) ⟨.inr rfl, ⟨.inr rfl, trivial⟩⟩ ?_
  refine ab_iload_n C dX0_has_0 rfl ?_
  refine ab_if_lt C (tgt := 22) dX0_has_1 (by decide) (fun hc1 => ?_) (fun hc1 => ?_)
  · replace h := ab_pos hc1 h
    refine ab_weak (lv' := [none, none]) ⟨.inl rfl, ⟨.inl rfl, trivial⟩⟩ ?_
    exact gX0_has_b22 C _ h
  · replace h := ab_neg hc1 h
    refine ab_iload_n C dX0_has_4 rfl ?_
    refine ab_aload_n C dX0_has_5 rfl ?_
    refine ab_getI C dX0_has_6 flX0_18 rkC_36 rfl mmC_36 ?_
    refine ab_icmp_ge C (tgt := 22) dX0_has_9 (by decide) (fun hc2 => ?_) (fun hc2 => ?_)
    · replace h := ab_pos hc2 h
      refine ab_weak (lv' := [none, none]) ⟨.inl rfl, ⟨.inl rfl, trivial⟩⟩ ?_
      exact gX0_has_b22 C _ h
    · replace h := ab_neg hc2 h
      refine ab_iload_n C dX0_has_12 rfl ?_
      refine ab_bipush C dX0_has_13 (v := 50) rfl ?_
      refine ab_icmp_ge C (tgt := 22) dX0_has_15 (by decide) (fun hc3 => ?_) (fun hc3 => ?_)
      · replace h := ab_pos hc3 h
        refine ab_weak (lv' := [none, none]) ⟨.inl rfl, ⟨.inl rfl, trivial⟩⟩ ?_
        exact gX0_has_b22 C _ h
      · replace h := ab_neg hc3 h
        refine ab_iconst C dX0_has_18 (v := 1) rfl ?_
        refine ab_goto C (tgt := 23) dX0_has_19 (by decide) ?_
        refine ab_weak (lv' := [none, none]) ⟨.inl rfl, ⟨.inl rfl, trivial⟩⟩ ?_
        exact gX0_has_b23 C _ _ h
end
def fX0_kindOf_b18 (t0 : Int32) (σ : ab_S) : Option Int32 := some t0
def fX0_kindOf (x1 : Int32) (σ : ab_S) : Option Int32 := (fX0_has x1 σ).bind fun q1 => (if q1 = 0 then fX0_kindOf_b18 ((-1)) σ else (if ab_inb x1 50 = true then fX0_kindOf_b18 (σ.1 37 0 x1.toNatClampNeg) σ else none))
section
variable {p : Program} {l : Launch} {e : Env} {s : State} {m : MethodId} {args : Array Value} {below : List Frame} {meth : Method} {c : Code} {D : va_G} {cA : Nat → ClassId} {ad : Nat → Nat → Nat}
set_option maxRecDepth 100000 in
set_option maxHeartbeats 4000000 in
theorem gX0_kindOf_b18 {R : Int32} (C : ab_C yC p s m args meth c D cA ad cX0_kindOf 2 RX0 (some .int)) (σ : ab_S) (t0 : Int32) (h : fX0_kindOf_b18 t0 σ = some R) : ab_G yC p l e s m args below meth c D cA ad 2 1 (some (.inl R)) σ 18 [none, none] [.inl t0] σ := by
  obtain rfl := Option.some.inj h
  exact ab_iret C dX0_kindOf_18
set_option maxRecDepth 100000 in
set_option maxHeartbeats 4000000 in
theorem tX0_kindOf (l : Launch) (x1 : Int32) (σ : ab_S) {R : Int32} (h : fX0_kindOf x1 σ = some R) : ab_M l yC yX0_kindOf cX0_kindOf 2 (some .int) 1 [.inr (.inr (36, 0)), .inl x1] σ (some (.inl R)) σ := by
  refine ab_M_intro ndC (by decide) (Nat.le_of_ble_eq_true rfl) ?_
  intro p e s m args below meth c D cA ad C
  have C : ab_C yC p s m args meth c D cA ad cX0_kindOf 2 RX0 (some .int) := C
  refine ab_weak (lv' := [some (.inr (.inr (36, 0))), some (.inl x1)]) ⟨.inr rfl, ⟨.inr rfl, trivial⟩⟩ ?_
  refine ab_aload_n C dX0_kindOf_0 rfl ?_
  refine ab_iload_n C dX0_kindOf_1 rfl ?_
  obtain ⟨q1, hq1, h⟩ := ab_bind h
  refine ab_inv1 C dX0_kindOf_2 mlX0_26 yvX0_has rkC_36 ⟨_, _, rfl⟩ mmC_36 (tX0_has l _ _ hq1) (Nat.le_of_ble_eq_true rfl) (Nat.le_of_ble_eq_true rfl) rfl (Nat.le_of_ble_eq_true rfl) ?_
  refine ab_if_eq C (tgt := 17) dX0_kindOf_5 (by decide) (fun hc2 => ?_) (fun hc2 => ?_)
  · replace h := ab_pos hc2 h
    refine ab_iconst C dX0_kindOf_17 (v := (-1)) rfl ?_
    refine ab_weak (lv' := [none, none]) ⟨.inl rfl, ⟨.inl rfl, trivial⟩⟩ ?_
    exact gX0_kindOf_b18 C _ _ h
  · replace h := ab_neg hc2 h
    refine ab_aload_n C dX0_kindOf_8 rfl ?_
    refine ab_getR C dX0_kindOf_9 flX0_11 rkC_36 rfl mmC_36 ?_
    refine ab_iload_n C dX0_kindOf_12 rfl ?_
    obtain ⟨hg3, h⟩ := ab_grd h
    refine ab_iald C dX0_kindOf_13 rkC_37 mmC_37 hg3 ?_
    refine ab_goto C (tgt := 18) dX0_kindOf_14 (by decide) ?_
    refine ab_weak (lv' := [none, none]) ⟨.inl rfl, ⟨.inl rfl, trivial⟩⟩ ?_
    exact gX0_kindOf_b18 C _ _ h
end
def fX0_isUnder_b42 (σ : ab_S) : Option Int32 := some 0
def fX0_isUnder_b9_o (kk9 : Int32 → Int32 → Int32 → ab_S → Option Int32) (v2 : Int32) (v3 : Int32) (v4 : Int32) (σ : ab_S) : Option Int32 := (if 8 ≤ v4 then fX0_isUnder_b42 σ else (fX0_isKind v3).bind fun q2 => (if q2 = 0 then fX0_isUnder_b42 σ else (if v3 = v2 then some 1 else (if ab_inb v3 8 = true then kk9 v2 (svC_51 v3.toNatClampNeg) (v4 + 1) σ else none))))
def fX0_isUnder_b9 : Nat → Int32 → Int32 → Int32 → ab_S → Option Int32
  | 0 => fun _ _ _ _ => none
  | n + 1 => fX0_isUnder_b9_o  (fX0_isUnder_b9 n)
def fX0_isUnder (x1 : Int32) (x2 : Int32) (σ : ab_S) : Option Int32 := (fX0_kindOf x1 σ).bind fun q1 => fX0_isUnder_b9 ab_N x2 q1 0 σ
section
variable {p : Program} {l : Launch} {e : Env} {s : State} {m : MethodId} {args : Array Value} {below : List Frame} {meth : Method} {c : Code} {D : va_G} {cA : Nat → ClassId} {ad : Nat → Nat → Nat}
set_option maxRecDepth 100000 in
set_option maxHeartbeats 4000000 in
theorem gX0_isUnder_b42 {R : Int32} (C : ab_C yC p s m args meth c D cA ad cX0_isUnder 5 RX0 (some .boolean)) (σ : ab_S) (h : fX0_isUnder_b42 σ = some R) : ab_G yC p l e s m args below meth c D cA ad 5 2 (some (.inl R)) σ 42 [none, none, none, none, none] [] σ := by
  refine ab_iconst C dX0_isUnder_42 (v := 0) rfl ?_
  obtain rfl := Option.some.inj h
  exact ab_zret C dX0_isUnder_43 rfl
set_option maxRecDepth 100000 in
set_option maxHeartbeats 4000000 in
theorem gX0_isUnder_b9_o {R : Int32} (C : ab_C yC p s m args meth c D cA ad cX0_isUnder 5 RX0 (some .boolean)) (σ : ab_S) {kk9 : Int32 → Int32 → Int32 → ab_S → Option Int32} (hk9 : ∀ (v2 : Int32) (v3 : Int32) (v4 : Int32), kk9 v2 v3 v4 σ = some R → ab_G yC p l e s m args below meth c D cA ad 5 2 (some (.inl R)) σ 9 [none, none, some (.inl v2), some (.inl v3), some (.inl v4)] [] σ) (v2 : Int32) (v3 : Int32) (v4 : Int32) (h : fX0_isUnder_b9_o kk9 v2 v3 v4 σ = some R) : ab_G yC p l e s m args below meth c D cA ad 5 2 (some (.inl R)) σ 9 [none, none, some (.inl v2), some (.inl v3), some (.inl v4)] [] σ := by
  refine ab_iload C dX0_isUnder_9 rfl ?_
  refine ab_bipush C dX0_isUnder_11 (v := 8) rfl ?_
  refine ab_icmp_ge C (tgt := 42) dX0_isUnder_13 (by decide) (fun hc1 => ?_) (fun hc1 => ?_)
  · replace h := ab_pos hc1 h
    refine ab_weak (lv' := [none, none, none, none, none]) ⟨.inl rfl, ⟨.inl rfl, ⟨.inl rfl, ⟨.inl rfl, ⟨.inl rfl, trivial⟩⟩⟩⟩⟩ ?_
    exact gX0_isUnder_b42 C _ h
  · replace h := ab_neg hc1 h
    refine ab_iload_n C dX0_isUnder_16 rfl ?_
    obtain ⟨q2, hq2, h⟩ := ab_bind h
    refine ab_invS1 C dX0_isUnder_17 mlX0_34 ysX0_isKind (tX0_isKind l _ _ hq2) (Nat.le_of_ble_eq_true rfl) (Nat.le_of_ble_eq_true rfl) rfl (Nat.le_of_ble_eq_true rfl) ?_
    refine ab_if_eq C (tgt := 42) dX0_isUnder_20 (by decide) (fun hc3 => ?_) (fun hc3 => ?_)
    · replace h := ab_pos hc3 h
      refine ab_weak (lv' := [none, none, none, none, none]) ⟨.inl rfl, ⟨.inl rfl, ⟨.inl rfl, ⟨.inl rfl, ⟨.inl rfl, trivial⟩⟩⟩⟩⟩ ?_
      exact gX0_isUnder_b42 C _ h
    · replace h := ab_neg hc3 h
      refine ab_iload_n C dX0_isUnder_23 rfl ?_
      refine ab_iload_n C dX0_isUnder_24 rfl ?_
      refine ab_icmp_ne C (tgt := 30) dX0_isUnder_25 (by decide) (fun hc4 => ?_) (fun hc4 => ?_)
      · replace h := ab_neg hc4 h
        refine ab_gets C dX0_isUnder_30 zmC_51 fwX0_37 ?_
        refine ab_iload_n C dX0_isUnder_33 rfl ?_
        obtain ⟨hg5, h⟩ := ab_grd h
        refine ab_sald C dX0_isUnder_34 zmC_51 hg5 ?_
        refine ab_istore_n C dX0_isUnder_35 (Nat.le_of_ble_eq_true rfl) ?_
        refine ab_iinc C dX0_isUnder_36 rfl (v := 1) rfl (Nat.le_of_ble_eq_true rfl) ?_
        refine ab_goto C (tgt := 9) dX0_isUnder_39 (by decide) ?_
        refine ab_weak (lv' := [none, none, some (.inl v2), some (.inl (svC_51 v3.toNatClampNeg)), some (.inl (v4 + 1))]) ⟨.inl rfl, ⟨.inl rfl, ⟨.inr rfl, ⟨.inr rfl, ⟨.inr rfl, trivial⟩⟩⟩⟩⟩ ?_
        exact hk9 _ _ _ h
      · replace h := ab_pos hc4 h
        refine ab_iconst C dX0_isUnder_28 (v := 1) rfl ?_
        obtain rfl := Option.some.inj h
        exact ab_zret C dX0_isUnder_29 rfl
theorem gX0_isUnder_b9 {R : Int32} (C : ab_C yC p s m args meth c D cA ad cX0_isUnder 5 RX0 (some .boolean)) (σ : ab_S) : ∀ (j : Nat) (v2 : Int32) (v3 : Int32) (v4 : Int32), fX0_isUnder_b9 j v2 v3 v4 σ = some R → ab_G yC p l e s m args below meth c D cA ad 5 2 (some (.inl R)) σ 9 [none, none, some (.inl v2), some (.inl v3), some (.inl v4)] [] σ := by
  intro j
  induction j with
  | zero => intro v2 v3 v4  h; cases h
  | succ j ih => intro v2 v3 v4  h; exact gX0_isUnder_b9_o C σ ih _ _ _ h
set_option maxRecDepth 100000 in
set_option maxHeartbeats 4000000 in
theorem tX0_isUnder (l : Launch) (x1 : Int32) (x2 : Int32) (σ : ab_S) {R : Int32} (h : fX0_isUnder x1 x2 σ = some R) : ab_M l yC yX0_isUnder cX0_isUnder 5 (some .boolean) 2 [.inr (.inr (36, 0)), .inl x1, .inl x2] σ (some (.inl R)) σ := by
  refine ab_M_intro ndC (by decide) (Nat.le_of_ble_eq_true rfl) ?_
  intro p e s m args below meth c D cA ad C
  have C : ab_C yC p s m args meth c D cA ad cX0_isUnder 5 RX0 (some .boolean) := C
  refine ab_weak (lv' := [some (.inr (.inr (36, 0))), some (.inl x1), some (.inl x2), none, none]) ⟨.inr rfl, ⟨.inr rfl, ⟨.inr rfl, ⟨.inl rfl, ⟨.inl rfl, trivial⟩⟩⟩⟩⟩ ?_
  refine ab_aload_n C dX0_isUnder_0 rfl ?_
  refine ab_iload_n C dX0_isUnder_1 rfl ?_
  obtain ⟨q1, hq1, h⟩ := ab_bind h
  refine ab_inv1 C dX0_isUnder_2 mlX0_30 yvX0_kindOf rkC_36 ⟨_, _, rfl⟩ mmC_36 (tX0_kindOf l _ _ hq1) (Nat.le_of_ble_eq_true rfl) (Nat.le_of_ble_eq_true rfl) rfl (Nat.le_of_ble_eq_true rfl) ?_
  refine ab_istore_n C dX0_isUnder_5 (Nat.le_of_ble_eq_true rfl) ?_
  refine ab_iconst C dX0_isUnder_6 (v := 0) rfl ?_
  refine ab_istore C dX0_isUnder_7 (Nat.le_of_ble_eq_true rfl) ?_
  refine ab_weak (lv' := [none, none, some (.inl x2), some (.inl q1), some (.inl 0)]) ⟨.inl rfl, ⟨.inl rfl, ⟨.inr rfl, ⟨.inr rfl, ⟨.inr rfl, trivial⟩⟩⟩⟩⟩ ?_
  exact gX0_isUnder_b9 C _ ab_N _ _ _ h
end
def fX0_perform_b22 (σ : ab_S) : Option (Int32 × ab_S) := some (0, σ)
def fX0_perform (x1 : Int32) (x2 : Int32) (x3 : Int32) (σ : ab_S) : Option (Int32 × ab_S) := ab_k (ab_si σ 36 0 3 0) fun σ1 => (fX0_has x1 σ1).bind fun q2 => (if q2 = 0 then fX0_perform_b22 σ1 else (if x2 < 0 then fX0_perform_b22 σ1 else (if x2 ≤ 3 then ab_k (ab_si σ1 36 0 4 x1) fun σ6 => (if ab_inb x1 50 = true then ab_k (ab_si σ6 36 0 5 (σ6.1 37 0 x1.toNatClampNeg)) fun σ8 => ((fX0_run 64) (σ8.1 36 0 5) x2 x3 0 σ8).bind fun q9 => some (q9.1, q9.2) else none) else fX0_perform_b22 σ1)))
section
variable {p : Program} {l : Launch} {e : Env} {s : State} {m : MethodId} {args : Array Value} {below : List Frame} {meth : Method} {c : Code} {D : va_G} {cA : Nat → ClassId} {ad : Nat → Nat → Nat}
set_option maxRecDepth 100000 in
set_option maxHeartbeats 4000000 in
theorem gX0_perform_b22 {R : (Int32 × ab_S)} (C : ab_C yC p s m args meth c D cA ad cX0_perform 4 RX0 (some .int)) (σ : ab_S) (h : fX0_perform_b22 σ = some R) : ab_G yC p l e s m args below meth c D cA ad 4 66 (some (.inl R.1)) R.2 22 [none, none, none, none] [] σ := by
  refine ab_iconst C dX0_perform_22 (v := 0) rfl ?_
  obtain rfl := Option.some.inj h
  exact ab_iret C dX0_perform_23
set_option maxRecDepth 100000 in
set_option maxHeartbeats 4000000 in
theorem tX0_perform (l : Launch) (x1 : Int32) (x2 : Int32) (x3 : Int32) (σ : ab_S) {R : (Int32 × ab_S)} (h : fX0_perform x1 x2 x3 σ = some R) : ab_M l yC yX0_perform cX0_perform 4 (some .int) 66 [.inr (.inr (36, 0)), .inl x1, .inl x2, .inl x3] σ (some (.inl R.1)) R.2 := by
  refine ab_M_intro ndC (by decide) (Nat.le_of_ble_eq_true rfl) ?_
  intro p e s m args below meth c D cA ad C
  have C : ab_C yC p s m args meth c D cA ad cX0_perform 4 RX0 (some .int) := C
  refine ab_weak (lv' := [some (.inr (.inr (36, 0))), some (.inl x1), some (.inl x2), some (.inl x3)]) ⟨.inr rfl, ⟨.inr rfl, ⟨.inr rfl, ⟨.inr rfl, trivial⟩⟩⟩⟩ ?_
  refine ab_aload_n C dX0_perform_0 rfl ?_
  refine ab_iconst C dX0_perform_1 (v := 0) rfl ?_
  refine ab_putI C dX0_perform_2 fpX0_40 rkC_36 rfl mmC_36 rfl rfl ?_
  refine ab_nmS (fun σ1 eσ1 => ?_)
  replace h := ab_kh eσ1 h
  refine ab_aload_n C dX0_perform_5 rfl ?_
  refine ab_iload_n C dX0_perform_6 rfl ?_
  obtain ⟨q2, hq2, h⟩ := ab_bind h
  refine ab_inv1 C dX0_perform_7 mlX0_26 yvX0_has rkC_36 ⟨_, _, rfl⟩ mmC_36 (tX0_has l _ _ hq2) (Nat.le_of_ble_eq_true rfl) (Nat.le_of_ble_eq_true rfl) rfl (Nat.le_of_ble_eq_true rfl) ?_
  refine ab_if_eq C (tgt := 22) dX0_perform_10 (by decide) (fun hc3 => ?_) (fun hc3 => ?_)
  · replace h := ab_pos hc3 h
    refine ab_weak (lv' := [none, none, none, none]) ⟨.inl rfl, ⟨.inl rfl, ⟨.inl rfl, ⟨.inl rfl, trivial⟩⟩⟩⟩ ?_
    exact gX0_perform_b22 C _ h
  · replace h := ab_neg hc3 h
    refine ab_iload_n C dX0_perform_13 rfl ?_
    refine ab_if_lt C (tgt := 22) dX0_perform_14 (by decide) (fun hc4 => ?_) (fun hc4 => ?_)
    · replace h := ab_pos hc4 h
      refine ab_weak (lv' := [none, none, none, none]) ⟨.inl rfl, ⟨.inl rfl, ⟨.inl rfl, ⟨.inl rfl, trivial⟩⟩⟩⟩ ?_
      exact gX0_perform_b22 C _ h
    · replace h := ab_neg hc4 h
      refine ab_iload_n C dX0_perform_17 rfl ?_
      refine ab_iconst C dX0_perform_18 (v := 3) rfl ?_
      refine ab_icmp_le C (tgt := 24) dX0_perform_19 (by decide) (fun hc5 => ?_) (fun hc5 => ?_)
      · replace h := ab_pos hc5 h
        refine ab_aload_n C dX0_perform_24 rfl ?_
        refine ab_iload_n C dX0_perform_25 rfl ?_
        refine ab_putI C dX0_perform_26 fpX0_43 rkC_36 rfl mmC_36 rfl rfl ?_
        refine ab_nmS (fun σ6 eσ6 => ?_)
        replace h := ab_kh eσ6 h
        refine ab_aload_n C dX0_perform_29 rfl ?_
        refine ab_aload_n C dX0_perform_30 rfl ?_
        refine ab_getR C dX0_perform_31 flX0_11 rkC_36 rfl mmC_36 ?_
        refine ab_iload_n C dX0_perform_34 rfl ?_
        obtain ⟨hg7, h⟩ := ab_grd h
        refine ab_iald C dX0_perform_35 rkC_37 mmC_37 hg7 ?_
        refine ab_putI C dX0_perform_36 fpX0_46 rkC_36 rfl mmC_36 rfl rfl ?_
        refine ab_nmS (fun σ8 eσ8 => ?_)
        replace h := ab_kh eσ8 h
        refine ab_aload_n C dX0_perform_39 rfl ?_
        refine ab_aload_n C dX0_perform_40 rfl ?_
        refine ab_getI C dX0_perform_41 flX0_46 rkC_36 rfl mmC_36 ?_
        refine ab_iload_n C dX0_perform_44 rfl ?_
        refine ab_iload_n C dX0_perform_45 rfl ?_
        refine ab_iconst C dX0_perform_46 (v := 0) rfl ?_
        obtain ⟨q9, hq9, h⟩ := ab_bind h
        refine ab_inv1 C dX0_perform_47 mlX0_49 yvX0_run rkC_36 ⟨_, _, rfl⟩ mmC_36 (tX0_run 64 l _ _ _ _ _ hq9) (Nat.le_of_ble_eq_true rfl) (Nat.le_of_ble_eq_true rfl) rfl (Nat.le_of_ble_eq_true rfl) ?_
        obtain rfl := Option.some.inj h
        exact ab_iret C dX0_perform_50
      · replace h := ab_neg hc5 h
        refine ab_weak (lv' := [none, none, none, none]) ⟨.inl rfl, ⟨.inl rfl, ⟨.inl rfl, ⟨.inl rfl, trivial⟩⟩⟩⟩ ?_
        exact gX0_perform_b22 C _ h
end
def fX0_ranAt_b28 (t0 : Int32) (σ : ab_S) : Option Int32 := some t0
def fX0_ranAt_b27 (σ : ab_S) : Option Int32 := fX0_ranAt_b28 ((-1)) σ
def fX0_ranAt (x1 : Int32) (σ : ab_S) : Option Int32 := (if x1 < 0 then fX0_ranAt_b27 σ else (if (σ.1 36 0 3) ≤ x1 then fX0_ranAt_b27 σ else (if 24 ≤ x1 then fX0_ranAt_b27 σ else (if ab_inb x1 24 = true then fX0_ranAt_b28 (σ.1 38 0 x1.toNatClampNeg) σ else none))))
section
variable {p : Program} {l : Launch} {e : Env} {s : State} {m : MethodId} {args : Array Value} {below : List Frame} {meth : Method} {c : Code} {D : va_G} {cA : Nat → ClassId} {ad : Nat → Nat → Nat}
set_option maxRecDepth 100000 in
set_option maxHeartbeats 4000000 in
theorem gX0_ranAt_b28 {R : Int32} (C : ab_C yC p s m args meth c D cA ad cX0_ranAt 2 RX0 (some .int)) (σ : ab_S) (t0 : Int32) (h : fX0_ranAt_b28 t0 σ = some R) : ab_G yC p l e s m args below meth c D cA ad 2 0 (some (.inl R)) σ 28 [none, none] [.inl t0] σ := by
  obtain rfl := Option.some.inj h
  exact ab_iret C dX0_ranAt_28
set_option maxRecDepth 100000 in
set_option maxHeartbeats 4000000 in
theorem gX0_ranAt_b27 {R : Int32} (C : ab_C yC p s m args meth c D cA ad cX0_ranAt 2 RX0 (some .int)) (σ : ab_S) (h : fX0_ranAt_b27 σ = some R) : ab_G yC p l e s m args below meth c D cA ad 2 0 (some (.inl R)) σ 27 [none, none] [] σ := by
  refine ab_iconst C dX0_ranAt_27 (v := (-1)) rfl ?_
  refine ab_weak (lv' := [none, none]) ⟨.inl rfl, ⟨.inl rfl, trivial⟩⟩ ?_
  exact gX0_ranAt_b28 C _ _ h
set_option maxRecDepth 100000 in
set_option maxHeartbeats 4000000 in
theorem tX0_ranAt (l : Launch) (x1 : Int32) (σ : ab_S) {R : Int32} (h : fX0_ranAt x1 σ = some R) : ab_M l yC yX0_ranAt cX0_ranAt 2 (some .int) 0 [.inr (.inr (36, 0)), .inl x1] σ (some (.inl R)) σ := by
  refine ab_M_intro ndC (by decide) (Nat.le_of_ble_eq_true rfl) ?_
  intro p e s m args below meth c D cA ad C
  have C : ab_C yC p s m args meth c D cA ad cX0_ranAt 2 RX0 (some .int) := C
  refine ab_weak (lv' := [some (.inr (.inr (36, 0))), some (.inl x1)]) ⟨.inr rfl, ⟨.inr rfl, trivial⟩⟩ ?_
  refine ab_iload_n C dX0_ranAt_0 rfl ?_
  refine ab_if_lt C (tgt := 27) dX0_ranAt_1 (by decide) (fun hc1 => ?_) (fun hc1 => ?_)
  · replace h := ab_pos hc1 h
    refine ab_weak (lv' := [none, none]) ⟨.inl rfl, ⟨.inl rfl, trivial⟩⟩ ?_
    exact gX0_ranAt_b27 C _ h
  · replace h := ab_neg hc1 h
    refine ab_iload_n C dX0_ranAt_4 rfl ?_
    refine ab_aload_n C dX0_ranAt_5 rfl ?_
    refine ab_getI C dX0_ranAt_6 flX0_40 rkC_36 rfl mmC_36 ?_
    refine ab_icmp_ge C (tgt := 27) dX0_ranAt_9 (by decide) (fun hc2 => ?_) (fun hc2 => ?_)
    · replace h := ab_pos hc2 h
      refine ab_weak (lv' := [none, none]) ⟨.inl rfl, ⟨.inl rfl, trivial⟩⟩ ?_
      exact gX0_ranAt_b27 C _ h
    · replace h := ab_neg hc2 h
      refine ab_iload_n C dX0_ranAt_12 rfl ?_
      refine ab_bipush C dX0_ranAt_13 (v := 24) rfl ?_
      refine ab_icmp_ge C (tgt := 27) dX0_ranAt_15 (by decide) (fun hc3 => ?_) (fun hc3 => ?_)
      · replace h := ab_pos hc3 h
        refine ab_weak (lv' := [none, none]) ⟨.inl rfl, ⟨.inl rfl, trivial⟩⟩ ?_
        exact gX0_ranAt_b27 C _ h
      · replace h := ab_neg hc3 h
        refine ab_aload_n C dX0_ranAt_18 rfl ?_
        refine ab_getR C dX0_ranAt_19 flX0_15 rkC_36 rfl mmC_36 ?_
        refine ab_iload_n C dX0_ranAt_22 rfl ?_
        obtain ⟨hg4, h⟩ := ab_grd h
        refine ab_iald C dX0_ranAt_23 rkC_38 mmC_38 hg4 ?_
        refine ab_goto C (tgt := 28) dX0_ranAt_24 (by decide) ?_
        refine ab_weak (lv' := [none, none]) ⟨.inl rfl, ⟨.inl rfl, trivial⟩⟩ ?_
        exact gX0_ranAt_b28 C _ _ h
end
def fX1_isHost_b14 (t0 : Int32) : Option Int32 := (if ab_isb t0 = true then some t0 else none)
def fX1_isHost_b13 : Option Int32 := fX1_isHost_b14 0
def fX1_isHost (x0 : Int32) : Option Int32 := (if x0 < 0 then fX1_isHost_b13 else (if 4 ≤ x0 then fX1_isHost_b13 else fX1_isHost_b14 1))
section
variable {p : Program} {l : Launch} {e : Env} {s : State} {m : MethodId} {args : Array Value} {below : List Frame} {meth : Method} {c : Code} {D : va_G} {cA : Nat → ClassId} {ad : Nat → Nat → Nat}
set_option maxRecDepth 100000 in
set_option maxHeartbeats 4000000 in
theorem gX1_isHost_b14 {R : Int32} (C : ab_C yC p s m args meth c D cA ad cX1_isHost 1 RX1 (some .boolean)) {σ : ab_S} (t0 : Int32) (h : fX1_isHost_b14 t0 = some R) : ab_G yC p l e s m args below meth c D cA ad 1 0 (some (.inl R)) σ 14 [none] [.inl t0] σ := by
  obtain ⟨hg1, h⟩ := ab_grd h
  obtain rfl := Option.some.inj h
  exact ab_zret C dX1_isHost_14 hg1
set_option maxRecDepth 100000 in
set_option maxHeartbeats 4000000 in
theorem gX1_isHost_b13 {R : Int32} (C : ab_C yC p s m args meth c D cA ad cX1_isHost 1 RX1 (some .boolean)) {σ : ab_S} (h : fX1_isHost_b13 = some R) : ab_G yC p l e s m args below meth c D cA ad 1 0 (some (.inl R)) σ 13 [none] [] σ := by
  refine ab_iconst C dX1_isHost_13 (v := 0) rfl ?_
  refine ab_weak (lv' := [none]) ⟨.inl rfl, trivial⟩ ?_
  exact gX1_isHost_b14 C _ h
set_option maxRecDepth 100000 in
set_option maxHeartbeats 4000000 in
theorem tX1_isHost (l : Launch) (x0 : Int32) (σ : ab_S) {R : Int32} (h : fX1_isHost x0 = some R) : ab_M l yC yX1_isHost cX1_isHost 1 (some .boolean) 0 [.inl x0] σ (some (.inl R)) σ := by
  refine ab_M_intro ndC (by decide) (Nat.le_of_ble_eq_true rfl) ?_
  intro p e s m args below meth c D cA ad C
  have C : ab_C yC p s m args meth c D cA ad cX1_isHost 1 RX1 (some .boolean) := C
  refine ab_weak (lv' := [some (.inl x0)]) ⟨.inr rfl, trivial⟩ ?_
  refine ab_iload_n C dX1_isHost_0 rfl ?_
  refine ab_if_lt C (tgt := 13) dX1_isHost_1 (by decide) (fun hc1 => ?_) (fun hc1 => ?_)
  · replace h := ab_pos hc1 h
    refine ab_weak (lv' := [none]) ⟨.inl rfl, trivial⟩ ?_
    exact gX1_isHost_b13 C h
  · replace h := ab_neg hc1 h
    refine ab_iload_n C dX1_isHost_4 rfl ?_
    refine ab_iconst C dX1_isHost_5 (v := 4) rfl ?_
    refine ab_icmp_ge C (tgt := 13) dX1_isHost_6 (by decide) (fun hc2 => ?_) (fun hc2 => ?_)
    · replace h := ab_pos hc2 h
      refine ab_weak (lv' := [none]) ⟨.inl rfl, trivial⟩ ?_
      exact gX1_isHost_b13 C h
    · replace h := ab_neg hc2 h
      refine ab_iconst C dX1_isHost_9 (v := 1) rfl ?_
      refine ab_goto C (tgt := 14) dX1_isHost_10 (by decide) ?_
      refine ab_weak (lv' := [none]) ⟨.inl rfl, trivial⟩ ?_
      exact gX1_isHost_b14 C _ h
end
def fX1_firstDoor_b17 (t0 : Int32) (σ : ab_S) : Option Int32 := some t0
def fX1_firstDoor (x1 : Int32) (σ : ab_S) : Option Int32 := (fX1_isHost x1).bind fun q1 => (if q1 = 0 then fX1_firstDoor_b17 0 σ else (if ab_inb x1 4 = true then fX1_firstDoor_b17 (σ.1 33 0 x1.toNatClampNeg) σ else none))
section
variable {p : Program} {l : Launch} {e : Env} {s : State} {m : MethodId} {args : Array Value} {below : List Frame} {meth : Method} {c : Code} {D : va_G} {cA : Nat → ClassId} {ad : Nat → Nat → Nat}
set_option maxRecDepth 100000 in
set_option maxHeartbeats 4000000 in
theorem gX1_firstDoor_b17 {R : Int32} (C : ab_C yC p s m args meth c D cA ad cX1_firstDoor 2 RX1 (some .int)) (σ : ab_S) (t0 : Int32) (h : fX1_firstDoor_b17 t0 σ = some R) : ab_G yC p l e s m args below meth c D cA ad 2 1 (some (.inl R)) σ 17 [none, none] [.inl t0] σ := by
  obtain rfl := Option.some.inj h
  exact ab_iret C dX1_firstDoor_17
set_option maxRecDepth 100000 in
set_option maxHeartbeats 4000000 in
theorem tX1_firstDoor (l : Launch) (x1 : Int32) (σ : ab_S) {R : Int32} (h : fX1_firstDoor x1 σ = some R) : ab_M l yC yX1_firstDoor cX1_firstDoor 2 (some .int) 1 [.inr (.inr (21, 0)), .inl x1] σ (some (.inl R)) σ := by
  refine ab_M_intro ndC (by decide) (Nat.le_of_ble_eq_true rfl) ?_
  intro p e s m args below meth c D cA ad C
  have C : ab_C yC p s m args meth c D cA ad cX1_firstDoor 2 RX1 (some .int) := C
  refine ab_weak (lv' := [some (.inr (.inr (21, 0))), some (.inl x1)]) ⟨.inr rfl, ⟨.inr rfl, trivial⟩⟩ ?_
  refine ab_iload_n C dX1_firstDoor_0 rfl ?_
  obtain ⟨q1, hq1, h⟩ := ab_bind h
  refine ab_invS1 C dX1_firstDoor_1 mlX1_57 ysX1_isHost (tX1_isHost l _ _ hq1) (Nat.le_of_ble_eq_true rfl) (Nat.le_of_ble_eq_true rfl) rfl (Nat.le_of_ble_eq_true rfl) ?_
  refine ab_if_eq C (tgt := 16) dX1_firstDoor_4 (by decide) (fun hc2 => ?_) (fun hc2 => ?_)
  · replace h := ab_pos hc2 h
    refine ab_iconst C dX1_firstDoor_16 (v := 0) rfl ?_
    refine ab_weak (lv' := [none, none]) ⟨.inl rfl, ⟨.inl rfl, trivial⟩⟩ ?_
    exact gX1_firstDoor_b17 C _ _ h
  · replace h := ab_neg hc2 h
    refine ab_aload_n C dX1_firstDoor_7 rfl ?_
    refine ab_getR C dX1_firstDoor_8 flX1_32 rkC_21 rfl mmC_21 ?_
    refine ab_iload_n C dX1_firstDoor_11 rfl ?_
    obtain ⟨hg3, h⟩ := ab_grd h
    refine ab_iald C dX1_firstDoor_12 rkC_33 mmC_33 hg3 ?_
    refine ab_goto C (tgt := 17) dX1_firstDoor_13 (by decide) ?_
    refine ab_weak (lv' := [none, none]) ⟨.inl rfl, ⟨.inl rfl, trivial⟩⟩ ?_
    exact gX1_firstDoor_b17 C _ _ h
end
def fX9_isIn_b14 (t0 : Int32) : Option Int32 := (if ab_isb t0 = true then some t0 else none)
def fX9_isIn (x0 : Int32) (x1 : Int32) : Option Int32 := (if ((x0 >>> (x1 &&& 31)) &&& 1) = 1 then fX9_isIn_b14 1 else fX9_isIn_b14 0)
section
variable {p : Program} {l : Launch} {e : Env} {s : State} {m : MethodId} {args : Array Value} {below : List Frame} {meth : Method} {c : Code} {D : va_G} {cA : Nat → ClassId} {ad : Nat → Nat → Nat}
set_option maxRecDepth 100000 in
set_option maxHeartbeats 4000000 in
theorem gX9_isIn_b14 {R : Int32} (C : ab_C yC p s m args meth c D cA ad cX9_isIn 2 RX9 (some .boolean)) {σ : ab_S} (t0 : Int32) (h : fX9_isIn_b14 t0 = some R) : ab_G yC p l e s m args below meth c D cA ad 2 0 (some (.inl R)) σ 14 [none, none] [.inl t0] σ := by
  obtain ⟨hg1, h⟩ := ab_grd h
  obtain rfl := Option.some.inj h
  exact ab_zret C dX9_isIn_14 hg1
set_option maxRecDepth 100000 in
set_option maxHeartbeats 4000000 in
theorem tX9_isIn (l : Launch) (x0 : Int32) (x1 : Int32) (σ : ab_S) {R : Int32} (h : fX9_isIn x0 x1 = some R) : ab_M l yC yX9_isIn cX9_isIn 2 (some .boolean) 0 [.inl x0, .inl x1] σ (some (.inl R)) σ := by
  refine ab_M_intro ndC (by decide) (Nat.le_of_ble_eq_true rfl) ?_
  intro p e s m args below meth c D cA ad C
  have C : ab_C yC p s m args meth c D cA ad cX9_isIn 2 RX9 (some .boolean) := C
  refine ab_weak (lv' := [some (.inl x0), some (.inl x1)]) ⟨.inr rfl, ⟨.inr rfl, trivial⟩⟩ ?_
  refine ab_iload_n C dX9_isIn_0 rfl ?_
  refine ab_iload_n C dX9_isIn_1 rfl ?_
  refine ab_ishr C dX9_isIn_2  ?_
  refine ab_iconst C dX9_isIn_3 (v := 1) rfl ?_
  refine ab_iand C dX9_isIn_4  ?_
  refine ab_iconst C dX9_isIn_5 (v := 1) rfl ?_
  refine ab_icmp_ne C (tgt := 13) dX9_isIn_6 (by decide) (fun hc1 => ?_) (fun hc1 => ?_)
  · replace h := ab_neg hc1 h
    refine ab_iconst C dX9_isIn_13 (v := 0) rfl ?_
    refine ab_weak (lv' := [none, none]) ⟨.inl rfl, ⟨.inl rfl, trivial⟩⟩ ?_
    exact gX9_isIn_b14 C _ h
  · replace h := ab_pos hc1 h
    refine ab_iconst C dX9_isIn_9 (v := 1) rfl ?_
    refine ab_goto C (tgt := 14) dX9_isIn_10 (by decide) ?_
    refine ab_weak (lv' := [none, none]) ⟨.inl rfl, ⟨.inl rfl, trivial⟩⟩ ?_
    exact gX9_isIn_b14 C _ h
end
def fX7_leastOther_b25 (kk2 : Int32 → Int32 → Int32 → ab_S → Option Int32) (v1 : Int32) (v2 : Int32) (v3 : Int32) (σ : ab_S) : Option Int32 := kk2 v1 v2 (v3 + 1) σ
def fX7_leastOther_b2_o (kk2 : Int32 → Int32 → Int32 → ab_S → Option Int32) (v1 : Int32) (v2 : Int32) (v3 : Int32) (σ : ab_S) : Option Int32 := (if (σ.1 1 0 3) ≤ v3 then some v2 else (if v3 = v2 then fX7_leastOther_b25 kk2 v1 v2 v3 σ else (fX9_isIn v1 v3).bind fun q3 => (if q3 = 0 then some v3 else fX7_leastOther_b25 kk2 v1 v2 v3 σ)))
def fX7_leastOther_b2 : Nat → Int32 → Int32 → Int32 → ab_S → Option Int32
  | 0 => fun _ _ _ _ => none
  | n + 1 => fX7_leastOther_b2_o  (fX7_leastOther_b2 n)
def fX7_leastOther (x1 : Int32) (x2 : Int32) (σ : ab_S) : Option Int32 := fX7_leastOther_b2 ab_N x1 x2 0 σ
section
variable {p : Program} {l : Launch} {e : Env} {s : State} {m : MethodId} {args : Array Value} {below : List Frame} {meth : Method} {c : Code} {D : va_G} {cA : Nat → ClassId} {ad : Nat → Nat → Nat}
set_option maxRecDepth 100000 in
set_option maxHeartbeats 4000000 in
theorem gX7_leastOther_b25 {R : Int32} (C : ab_C yC p s m args meth c D cA ad cX7_leastOther 4 RX7 (some .int)) (σ : ab_S) {kk2 : Int32 → Int32 → Int32 → ab_S → Option Int32} (hk2 : ∀ (v1 : Int32) (v2 : Int32) (v3 : Int32), kk2 v1 v2 v3 σ = some R → ab_G yC p l e s m args below meth c D cA ad 4 1 (some (.inl R)) σ 2 [some (.inr (.inr (1, 0))), some (.inl v1), some (.inl v2), some (.inl v3)] [] σ) (v1 : Int32) (v2 : Int32) (v3 : Int32) (h : fX7_leastOther_b25 kk2 v1 v2 v3 σ = some R) : ab_G yC p l e s m args below meth c D cA ad 4 1 (some (.inl R)) σ 25 [some (.inr (.inr (1, 0))), some (.inl v1), some (.inl v2), some (.inl v3)] [] σ := by
  refine ab_iinc C dX7_leastOther_25 rfl (v := 1) rfl (Nat.le_of_ble_eq_true rfl) ?_
  refine ab_goto C (tgt := 2) dX7_leastOther_28 (by decide) ?_
  refine ab_weak (lv' := [some (.inr (.inr (1, 0))), some (.inl v1), some (.inl v2), some (.inl (v3 + 1))]) ⟨.inr rfl, ⟨.inr rfl, ⟨.inr rfl, ⟨.inr rfl, trivial⟩⟩⟩⟩ ?_
  exact hk2 _ _ _ h
set_option maxRecDepth 100000 in
set_option maxHeartbeats 4000000 in
theorem gX7_leastOther_b2_o {R : Int32} (C : ab_C yC p s m args meth c D cA ad cX7_leastOther 4 RX7 (some .int)) (σ : ab_S) {kk2 : Int32 → Int32 → Int32 → ab_S → Option Int32} (hk2 : ∀ (v1 : Int32) (v2 : Int32) (v3 : Int32), kk2 v1 v2 v3 σ = some R → ab_G yC p l e s m args below meth c D cA ad 4 1 (some (.inl R)) σ 2 [some (.inr (.inr (1, 0))), some (.inl v1), some (.inl v2), some (.inl v3)] [] σ) (v1 : Int32) (v2 : Int32) (v3 : Int32) (h : fX7_leastOther_b2_o kk2 v1 v2 v3 σ = some R) : ab_G yC p l e s m args below meth c D cA ad 4 1 (some (.inl R)) σ 2 [some (.inr (.inr (1, 0))), some (.inl v1), some (.inl v2), some (.inl v3)] [] σ := by
  refine ab_iload_n C dX7_leastOther_2 rfl ?_
  refine ab_aload_n C dX7_leastOther_3 rfl ?_
  refine ab_getI C dX7_leastOther_4 flX7_32 rkC_1 rfl mmC_1 ?_
  refine ab_icmp_ge C (tgt := 31) dX7_leastOther_7 (by decide) (fun hc1 => ?_) (fun hc1 => ?_)
  · replace h := ab_pos hc1 h
    refine ab_iload_n C dX7_leastOther_31 rfl ?_
    obtain rfl := Option.some.inj h
    exact ab_iret C dX7_leastOther_32
  · replace h := ab_neg hc1 h
    refine ab_iload_n C dX7_leastOther_10 rfl ?_
    refine ab_iload_n C dX7_leastOther_11 rfl ?_
    refine ab_icmp_eq C (tgt := 25) dX7_leastOther_12 (by decide) (fun hc2 => ?_) (fun hc2 => ?_)
    · replace h := ab_pos hc2 h
      refine ab_weak (lv' := [some (.inr (.inr (1, 0))), some (.inl v1), some (.inl v2), some (.inl v3)]) ⟨.inr rfl, ⟨.inr rfl, ⟨.inr rfl, ⟨.inr rfl, trivial⟩⟩⟩⟩ ?_
      exact gX7_leastOther_b25 C _ hk2 _ _ _ h
    · replace h := ab_neg hc2 h
      refine ab_iload_n C dX7_leastOther_15 rfl ?_
      refine ab_iload_n C dX7_leastOther_16 rfl ?_
      obtain ⟨q3, hq3, h⟩ := ab_bind h
      refine ab_invSN1 C dX7_leastOther_17 nlX7_69 ysX9_isIn (tX9_isIn l _ _ _ hq3) (Nat.le_of_ble_eq_true rfl) (Nat.le_of_ble_eq_true rfl) rfl (Nat.le_of_ble_eq_true rfl) ?_
      refine ab_if_ne C (tgt := 25) dX7_leastOther_20 (by decide) (fun hc4 => ?_) (fun hc4 => ?_)
      · replace h := ab_neg hc4 h
        refine ab_weak (lv' := [some (.inr (.inr (1, 0))), some (.inl v1), some (.inl v2), some (.inl v3)]) ⟨.inr rfl, ⟨.inr rfl, ⟨.inr rfl, ⟨.inr rfl, trivial⟩⟩⟩⟩ ?_
        exact gX7_leastOther_b25 C _ hk2 _ _ _ h
      · replace h := ab_pos hc4 h
        refine ab_iload_n C dX7_leastOther_23 rfl ?_
        obtain rfl := Option.some.inj h
        exact ab_iret C dX7_leastOther_24
theorem gX7_leastOther_b2 {R : Int32} (C : ab_C yC p s m args meth c D cA ad cX7_leastOther 4 RX7 (some .int)) (σ : ab_S) : ∀ (j : Nat) (v1 : Int32) (v2 : Int32) (v3 : Int32), fX7_leastOther_b2 j v1 v2 v3 σ = some R → ab_G yC p l e s m args below meth c D cA ad 4 1 (some (.inl R)) σ 2 [some (.inr (.inr (1, 0))), some (.inl v1), some (.inl v2), some (.inl v3)] [] σ := by
  intro j
  induction j with
  | zero => intro v1 v2 v3  h; cases h
  | succ j ih => intro v1 v2 v3  h; exact gX7_leastOther_b2_o C σ ih _ _ _ h
set_option maxRecDepth 100000 in
set_option maxHeartbeats 4000000 in
theorem tX7_leastOther (l : Launch) (x1 : Int32) (x2 : Int32) (σ : ab_S) {R : Int32} (h : fX7_leastOther x1 x2 σ = some R) : ab_M l yC yX7_leastOther cX7_leastOther 4 (some .int) 1 [.inr (.inr (1, 0)), .inl x1, .inl x2] σ (some (.inl R)) σ := by
  refine ab_M_intro ndC (by decide) (Nat.le_of_ble_eq_true rfl) ?_
  intro p e s m args below meth c D cA ad C
  have C : ab_C yC p s m args meth c D cA ad cX7_leastOther 4 RX7 (some .int) := C
  refine ab_weak (lv' := [some (.inr (.inr (1, 0))), some (.inl x1), some (.inl x2), none]) ⟨.inr rfl, ⟨.inr rfl, ⟨.inr rfl, ⟨.inl rfl, trivial⟩⟩⟩⟩ ?_
  refine ab_iconst C dX7_leastOther_0 (v := 0) rfl ?_
  refine ab_istore_n C dX7_leastOther_1 (Nat.le_of_ble_eq_true rfl) ?_
  refine ab_weak (lv' := [some (.inr (.inr (1, 0))), some (.inl x1), some (.inl x2), some (.inl 0)]) ⟨.inr rfl, ⟨.inr rfl, ⟨.inr rfl, ⟨.inr rfl, trivial⟩⟩⟩⟩ ?_
  exact gX7_leastOther_b2 C _ ab_N _ _ _ h
end
def fX5_held (x0 : Int32) : Option Int32 := some (if 0 < (if x0 < 12 then x0 else 12) then (if x0 < 12 then x0 else 12) else 0)
section
variable {p : Program} {l : Launch} {e : Env} {s : State} {m : MethodId} {args : Array Value} {below : List Frame} {meth : Method} {c : Code} {D : va_G} {cA : Nat → ClassId} {ad : Nat → Nat → Nat}
set_option maxRecDepth 100000 in
set_option maxHeartbeats 4000000 in
theorem tX5_held (l : Launch) (x0 : Int32) (σ : ab_S) {R : Int32} (h : fX5_held x0 = some R) : ab_M l yC yX5_held cX5_held 1 (some .int) 1 [.inl x0] σ (some (.inl R)) σ := by
  refine ab_M_intro ndC (by decide) (Nat.le_of_ble_eq_true rfl) ?_
  intro p e s m args below meth c D cA ad C
  have C : ab_C yC p s m args meth c D cA ad cX5_held 1 RX5 (some .int) := C
  refine ab_weak (lv' := [some (.inl x0)]) ⟨.inr rfl, trivial⟩ ?_
  refine ab_iconst C dX5_held_0 (v := 0) rfl ?_
  refine ab_bipush C dX5_held_1 (v := 12) rfl ?_
  refine ab_iload_n C dX5_held_3 rfl ?_
  refine ab_mmin C dX5_held_4 mlX5_65 sw_mmin kw_mmin (Nat.le_of_ble_eq_true rfl) (Nat.le_of_ble_eq_true rfl) ?_
  refine ab_mmax C dX5_held_7 mlX5_71 sw_mmax kw_mmax (Nat.le_of_ble_eq_true rfl) (Nat.le_of_ble_eq_true rfl) ?_
  obtain rfl := Option.some.inj h
  exact ab_iret C dX5_held_10
end
def fX5_seatOf_b10 : Option Int32 := some ((-1))
def fX5_seatOf (x0 : Int32) (x1 : Int32) (x2 : Int32) (x3 : Int32) (x4 : Int32) : Option Int32 := (if 3 ≤ x0 then fX5_seatOf_b10 else (if x1 ≤ x0 then some (((((((((x0 * (x0 + 1)) / 2) + x1) * 5) + x2) * 5) + x3) * 5) + x4) else fX5_seatOf_b10))
section
variable {p : Program} {l : Launch} {e : Env} {s : State} {m : MethodId} {args : Array Value} {below : List Frame} {meth : Method} {c : Code} {D : va_G} {cA : Nat → ClassId} {ad : Nat → Nat → Nat}
set_option maxRecDepth 100000 in
set_option maxHeartbeats 4000000 in
theorem gX5_seatOf_b10 {R : Int32} (C : ab_C yC p s m args meth c D cA ad cX5_seatOf 6 RX5 (some .int)) {σ : ab_S} (h : fX5_seatOf_b10 = some R) : ab_G yC p l e s m args below meth c D cA ad 6 0 (some (.inl R)) σ 10 [none, none, none, none, none, none] [] σ := by
  refine ab_iconst C dX5_seatOf_10 (v := (-1)) rfl ?_
  obtain rfl := Option.some.inj h
  exact ab_iret C dX5_seatOf_11
set_option maxRecDepth 100000 in
set_option maxHeartbeats 4000000 in
theorem tX5_seatOf (l : Launch) (x0 : Int32) (x1 : Int32) (x2 : Int32) (x3 : Int32) (x4 : Int32) (σ : ab_S) {R : Int32} (h : fX5_seatOf x0 x1 x2 x3 x4 = some R) : ab_M l yC yX5_seatOf cX5_seatOf 6 (some .int) 0 [.inl x0, .inl x1, .inl x2, .inl x3, .inl x4] σ (some (.inl R)) σ := by
  refine ab_M_intro ndC (by decide) (Nat.le_of_ble_eq_true rfl) ?_
  intro p e s m args below meth c D cA ad C
  have C : ab_C yC p s m args meth c D cA ad cX5_seatOf 6 RX5 (some .int) := C
  refine ab_weak (lv' := [some (.inl x0), some (.inl x1), some (.inl x2), some (.inl x3), some (.inl x4), none]) ⟨.inr rfl, ⟨.inr rfl, ⟨.inr rfl, ⟨.inr rfl, ⟨.inr rfl, ⟨.inl rfl, trivial⟩⟩⟩⟩⟩⟩ ?_
  refine ab_iload_n C dX5_seatOf_0 rfl ?_
  refine ab_iconst C dX5_seatOf_1 (v := 3) rfl ?_
  refine ab_icmp_ge C (tgt := 10) dX5_seatOf_2 (by decide) (fun hc1 => ?_) (fun hc1 => ?_)
  · replace h := ab_pos hc1 h
    refine ab_weak (lv' := [none, none, none, none, none, none]) ⟨.inl rfl, ⟨.inl rfl, ⟨.inl rfl, ⟨.inl rfl, ⟨.inl rfl, ⟨.inl rfl, trivial⟩⟩⟩⟩⟩⟩ ?_
    exact gX5_seatOf_b10 C h
  · replace h := ab_neg hc1 h
    refine ab_iload_n C dX5_seatOf_5 rfl ?_
    refine ab_iload_n C dX5_seatOf_6 rfl ?_
    refine ab_icmp_le C (tgt := 12) dX5_seatOf_7 (by decide) (fun hc2 => ?_) (fun hc2 => ?_)
    · replace h := ab_pos hc2 h
      refine ab_iload_n C dX5_seatOf_12 rfl ?_
      refine ab_iload_n C dX5_seatOf_13 rfl ?_
      refine ab_iconst C dX5_seatOf_14 (v := 1) rfl ?_
      refine ab_iadd C dX5_seatOf_15  ?_
      refine ab_imul C dX5_seatOf_16  ?_
      refine ab_iconst C dX5_seatOf_17 (v := 2) rfl ?_
      refine ab_idiv C dX5_seatOf_18 (by decide) ?_
      refine ab_iload_n C dX5_seatOf_19 rfl ?_
      refine ab_iadd C dX5_seatOf_20  ?_
      refine ab_istore C dX5_seatOf_21 (Nat.le_of_ble_eq_true rfl) ?_
      refine ab_iload C dX5_seatOf_23 rfl ?_
      refine ab_iconst C dX5_seatOf_25 (v := 5) rfl ?_
      refine ab_imul C dX5_seatOf_26  ?_
      refine ab_iload_n C dX5_seatOf_27 rfl ?_
      refine ab_iadd C dX5_seatOf_28  ?_
      refine ab_iconst C dX5_seatOf_29 (v := 5) rfl ?_
      refine ab_imul C dX5_seatOf_30  ?_
      refine ab_iload_n C dX5_seatOf_31 rfl ?_
      refine ab_iadd C dX5_seatOf_32  ?_
      refine ab_iconst C dX5_seatOf_33 (v := 5) rfl ?_
      refine ab_imul C dX5_seatOf_34  ?_
      refine ab_iload C dX5_seatOf_35 rfl ?_
      refine ab_iadd C dX5_seatOf_37  ?_
      obtain rfl := Option.some.inj h
      exact ab_iret C dX5_seatOf_38
    · replace h := ab_neg hc2 h
      refine ab_weak (lv' := [none, none, none, none, none, none]) ⟨.inl rfl, ⟨.inl rfl, ⟨.inl rfl, ⟨.inl rfl, ⟨.inl rfl, ⟨.inl rfl, trivial⟩⟩⟩⟩⟩⟩ ?_
      exact gX5_seatOf_b10 C h
end
def fX5_joined_b111 (t0 : Int32) : Option Int32 := some t0
def fX5_joined_b110 : Option Int32 := fX5_joined_b111 0
def fX5_joined_b168 (t0 : Int32) : Option Int32 := some t0
def fX5_joined_b122 (t0 : Int32) : Option Int32 := some t0
def fX5_joined_b133 (t0 : Int32) : Option Int32 := some t0
def fX5_joined_b144 (t0 : Int32) : Option Int32 := some t0
def fX5_joined_b97 (t0 : Int32) : Option Int32 := some t0
def fX5_joined_b92 : Option Int32 := fX5_joined_b97 1
def fX5_joined_b180 (t0 : Int32) : Option Int32 := some t0
def fX5_joined (x0 : Int32) (x1 : Int32) (x2 : Int32) : Option Int32 := (if x0 = 38 then (if x1 = 0 then fX5_joined_b110 else (if x2 = 0 then fX5_joined_b110 else fX5_joined_b111 1)) else (if x0 = 42 then some (x1 * x2) else (if x0 = 43 then some (x1 + x2) else (if x0 = 45 then some (x1 - x2) else (if x0 = 47 then (if x2 = 0 then fX5_joined_b168 0 else (if x2 = 0 then none else fX5_joined_b168 (x1 / x2))) else (if x0 = 60 then (if x2 ≤ x1 then fX5_joined_b122 0 else fX5_joined_b122 1) else (if x0 = 61 then (if x1 = x2 then fX5_joined_b133 1 else fX5_joined_b133 0) else (if x0 = 62 then (if x1 ≤ x2 then fX5_joined_b144 0 else fX5_joined_b144 1) else (if x0 = 124 then (if x1 = 0 then (if x2 = 0 then fX5_joined_b97 0 else fX5_joined_b92) else fX5_joined_b92) else (if x2 = 0 then fX5_joined_b180 0 else (if x2 = 0 then none else fX5_joined_b180 (ab_mod x1 x2))))))))))))
section
variable {p : Program} {l : Launch} {e : Env} {s : State} {m : MethodId} {args : Array Value} {below : List Frame} {meth : Method} {c : Code} {D : va_G} {cA : Nat → ClassId} {ad : Nat → Nat → Nat}
set_option maxRecDepth 100000 in
set_option maxHeartbeats 4000000 in
theorem gX5_joined_b111 {R : Int32} (C : ab_C yC p s m args meth c D cA ad cX5_joined 3 RX5 (some .int)) {σ : ab_S} (t0 : Int32) (h : fX5_joined_b111 t0 = some R) : ab_G yC p l e s m args below meth c D cA ad 3 0 (some (.inl R)) σ 111 [none, none, none] [.inl t0] σ := by
  obtain rfl := Option.some.inj h
  exact ab_iret C dX5_joined_111
set_option maxRecDepth 100000 in
set_option maxHeartbeats 4000000 in
theorem gX5_joined_b110 {R : Int32} (C : ab_C yC p s m args meth c D cA ad cX5_joined 3 RX5 (some .int)) {σ : ab_S} (h : fX5_joined_b110 = some R) : ab_G yC p l e s m args below meth c D cA ad 3 0 (some (.inl R)) σ 110 [none, none, none] [] σ := by
  refine ab_iconst C dX5_joined_110 (v := 0) rfl ?_
  refine ab_weak (lv' := [none, none, none]) ⟨.inl rfl, ⟨.inl rfl, ⟨.inl rfl, trivial⟩⟩⟩ ?_
  exact gX5_joined_b111 C _ h
set_option maxRecDepth 100000 in
set_option maxHeartbeats 4000000 in
theorem gX5_joined_b168 {R : Int32} (C : ab_C yC p s m args meth c D cA ad cX5_joined 3 RX5 (some .int)) {σ : ab_S} (t0 : Int32) (h : fX5_joined_b168 t0 = some R) : ab_G yC p l e s m args below meth c D cA ad 3 0 (some (.inl R)) σ 168 [none, none, none] [.inl t0] σ := by
  obtain rfl := Option.some.inj h
  exact ab_iret C dX5_joined_168
set_option maxRecDepth 100000 in
set_option maxHeartbeats 4000000 in
theorem gX5_joined_b122 {R : Int32} (C : ab_C yC p s m args meth c D cA ad cX5_joined 3 RX5 (some .int)) {σ : ab_S} (t0 : Int32) (h : fX5_joined_b122 t0 = some R) : ab_G yC p l e s m args below meth c D cA ad 3 0 (some (.inl R)) σ 122 [none, none, none] [.inl t0] σ := by
  obtain rfl := Option.some.inj h
  exact ab_iret C dX5_joined_122
set_option maxRecDepth 100000 in
set_option maxHeartbeats 4000000 in
theorem gX5_joined_b133 {R : Int32} (C : ab_C yC p s m args meth c D cA ad cX5_joined 3 RX5 (some .int)) {σ : ab_S} (t0 : Int32) (h : fX5_joined_b133 t0 = some R) : ab_G yC p l e s m args below meth c D cA ad 3 0 (some (.inl R)) σ 133 [none, none, none] [.inl t0] σ := by
  obtain rfl := Option.some.inj h
  exact ab_iret C dX5_joined_133
set_option maxRecDepth 100000 in
set_option maxHeartbeats 4000000 in
theorem gX5_joined_b144 {R : Int32} (C : ab_C yC p s m args meth c D cA ad cX5_joined 3 RX5 (some .int)) {σ : ab_S} (t0 : Int32) (h : fX5_joined_b144 t0 = some R) : ab_G yC p l e s m args below meth c D cA ad 3 0 (some (.inl R)) σ 144 [none, none, none] [.inl t0] σ := by
  obtain rfl := Option.some.inj h
  exact ab_iret C dX5_joined_144
set_option maxRecDepth 100000 in
set_option maxHeartbeats 4000000 in
theorem gX5_joined_b97 {R : Int32} (C : ab_C yC p s m args meth c D cA ad cX5_joined 3 RX5 (some .int)) {σ : ab_S} (t0 : Int32) (h : fX5_joined_b97 t0 = some R) : ab_G yC p l e s m args below meth c D cA ad 3 0 (some (.inl R)) σ 97 [none, none, none] [.inl t0] σ := by
  obtain rfl := Option.some.inj h
  exact ab_iret C dX5_joined_97
set_option maxRecDepth 100000 in
set_option maxHeartbeats 4000000 in
theorem gX5_joined_b92 {R : Int32} (C : ab_C yC p s m args meth c D cA ad cX5_joined 3 RX5 (some .int)) {σ : ab_S} (h : fX5_joined_b92 = some R) : ab_G yC p l e s m args below meth c D cA ad 3 0 (some (.inl R)) σ 92 [none, none, none] [] σ := by
  refine ab_iconst C dX5_joined_92 (v := 1) rfl ?_
  refine ab_goto C (tgt := 97) dX5_joined_93 (by decide) ?_
  refine ab_weak (lv' := [none, none, none]) ⟨.inl rfl, ⟨.inl rfl, ⟨.inl rfl, trivial⟩⟩⟩ ?_
  exact gX5_joined_b97 C _ h
set_option maxRecDepth 100000 in
set_option maxHeartbeats 4000000 in
theorem gX5_joined_b180 {R : Int32} (C : ab_C yC p s m args meth c D cA ad cX5_joined 3 RX5 (some .int)) {σ : ab_S} (t0 : Int32) (h : fX5_joined_b180 t0 = some R) : ab_G yC p l e s m args below meth c D cA ad 3 0 (some (.inl R)) σ 180 [none, none, none] [.inl t0] σ := by
  obtain rfl := Option.some.inj h
  exact ab_iret C dX5_joined_180
set_option maxRecDepth 100000 in
set_option maxHeartbeats 4000000 in
theorem tX5_joined (l : Launch) (x0 : Int32) (x1 : Int32) (x2 : Int32) (σ : ab_S) {R : Int32} (h : fX5_joined x0 x1 x2 = some R) : ab_M l yC yX5_joined cX5_joined 3 (some .int) 0 [.inl x0, .inl x1, .inl x2] σ (some (.inl R)) σ := by
  refine ab_M_intro ndC (by decide) (Nat.le_of_ble_eq_true rfl) ?_
  intro p e s m args below meth c D cA ad C
  have C : ab_C yC p s m args meth c D cA ad cX5_joined 3 RX5 (some .int) := C
  refine ab_weak (lv' := [some (.inl x0), some (.inl x1), some (.inl x2)]) ⟨.inr rfl, ⟨.inr rfl, ⟨.inr rfl, trivial⟩⟩⟩ ?_
  refine ab_iload_n C dX5_joined_0 rfl ?_
  by_cases hc1 : x0 = 38
  · replace h := ab_pos hc1 h
    refine ab_lsw C (off := 97) (tgt := 98) dX5_joined_1.1 (by decide) (by rw [hc1]; decide) (by decide) ?_
    refine ab_iload_n C dX5_joined_98 rfl ?_
    refine ab_if_eq C (tgt := 110) dX5_joined_99 (by decide) (fun hc2 => ?_) (fun hc2 => ?_)
    · replace h := ab_pos hc2 h
      refine ab_weak (lv' := [none, none, none]) ⟨.inl rfl, ⟨.inl rfl, ⟨.inl rfl, trivial⟩⟩⟩ ?_
      exact gX5_joined_b110 C h
    · replace h := ab_neg hc2 h
      refine ab_iload_n C dX5_joined_102 rfl ?_
      refine ab_if_eq C (tgt := 110) dX5_joined_103 (by decide) (fun hc3 => ?_) (fun hc3 => ?_)
      · replace h := ab_pos hc3 h
        refine ab_weak (lv' := [none, none, none]) ⟨.inl rfl, ⟨.inl rfl, ⟨.inl rfl, trivial⟩⟩⟩ ?_
        exact gX5_joined_b110 C h
      · replace h := ab_neg hc3 h
        refine ab_iconst C dX5_joined_106 (v := 1) rfl ?_
        refine ab_goto C (tgt := 111) dX5_joined_107 (by decide) ?_
        refine ab_weak (lv' := [none, none, none]) ⟨.inl rfl, ⟨.inl rfl, ⟨.inl rfl, trivial⟩⟩⟩ ?_
        exact gX5_joined_b111 C _ h
  · replace h := ab_neg hc1 h
    by_cases hc4 : x0 = 42
    · replace h := ab_pos hc4 h
      refine ab_lsw C (off := 152) (tgt := 153) dX5_joined_1.1 (by decide) (by rw [hc4]; decide) (by decide) ?_
      refine ab_iload_n C dX5_joined_153 rfl ?_
      refine ab_iload_n C dX5_joined_154 rfl ?_
      refine ab_imul C dX5_joined_155  ?_
      obtain rfl := Option.some.inj h
      exact ab_iret C dX5_joined_156
    · replace h := ab_neg hc4 h
      by_cases hc5 : x0 = 43
      · replace h := ab_pos hc5 h
        refine ab_lsw C (off := 144) (tgt := 145) dX5_joined_1.1 (by decide) (by rw [hc5]; decide) (by decide) ?_
        refine ab_iload_n C dX5_joined_145 rfl ?_
        refine ab_iload_n C dX5_joined_146 rfl ?_
        refine ab_iadd C dX5_joined_147  ?_
        obtain rfl := Option.some.inj h
        exact ab_iret C dX5_joined_148
      · replace h := ab_neg hc5 h
        by_cases hc6 : x0 = 45
        · replace h := ab_pos hc6 h
          refine ab_lsw C (off := 148) (tgt := 149) dX5_joined_1.1 (by decide) (by rw [hc6]; decide) (by decide) ?_
          refine ab_iload_n C dX5_joined_149 rfl ?_
          refine ab_iload_n C dX5_joined_150 rfl ?_
          refine ab_isub C dX5_joined_151  ?_
          obtain rfl := Option.some.inj h
          exact ab_iret C dX5_joined_152
        · replace h := ab_neg hc6 h
          by_cases hc7 : x0 = 47
          · replace h := ab_pos hc7 h
            refine ab_lsw C (off := 156) (tgt := 157) dX5_joined_1.1 (by decide) (by rw [hc7]; decide) (by decide) ?_
            refine ab_iload_n C dX5_joined_157 rfl ?_
            refine ab_if_ne C (tgt := 165) dX5_joined_158 (by decide) (fun hc8 => ?_) (fun hc8 => ?_)
            · replace h := ab_neg hc8 h
              refine ab_iload_n C dX5_joined_165 rfl ?_
              refine ab_iload_n C dX5_joined_166 rfl ?_
              obtain ⟨hg9, h⟩ := ab_grn h
              refine ab_idiv C dX5_joined_167 hg9 ?_
              refine ab_weak (lv' := [none, none, none]) ⟨.inl rfl, ⟨.inl rfl, ⟨.inl rfl, trivial⟩⟩⟩ ?_
              exact gX5_joined_b168 C _ h
            · replace h := ab_pos hc8 h
              refine ab_iconst C dX5_joined_161 (v := 0) rfl ?_
              refine ab_goto C (tgt := 168) dX5_joined_162 (by decide) ?_
              refine ab_weak (lv' := [none, none, none]) ⟨.inl rfl, ⟨.inl rfl, ⟨.inl rfl, trivial⟩⟩⟩ ?_
              exact gX5_joined_b168 C _ h
          · replace h := ab_neg hc7 h
            by_cases hc10 : x0 = 60
            · replace h := ab_pos hc10 h
              refine ab_lsw C (off := 111) (tgt := 112) dX5_joined_1.1 (by decide) (by rw [hc10]; decide) (by decide) ?_
              refine ab_iload_n C dX5_joined_112 rfl ?_
              refine ab_iload_n C dX5_joined_113 rfl ?_
              refine ab_icmp_ge C (tgt := 121) dX5_joined_114 (by decide) (fun hc11 => ?_) (fun hc11 => ?_)
              · replace h := ab_pos hc11 h
                refine ab_iconst C dX5_joined_121 (v := 0) rfl ?_
                refine ab_weak (lv' := [none, none, none]) ⟨.inl rfl, ⟨.inl rfl, ⟨.inl rfl, trivial⟩⟩⟩ ?_
                exact gX5_joined_b122 C _ h
              · replace h := ab_neg hc11 h
                refine ab_iconst C dX5_joined_117 (v := 1) rfl ?_
                refine ab_goto C (tgt := 122) dX5_joined_118 (by decide) ?_
                refine ab_weak (lv' := [none, none, none]) ⟨.inl rfl, ⟨.inl rfl, ⟨.inl rfl, trivial⟩⟩⟩ ?_
                exact gX5_joined_b122 C _ h
            · replace h := ab_neg hc10 h
              by_cases hc12 : x0 = 61
              · replace h := ab_pos hc12 h
                refine ab_lsw C (off := 122) (tgt := 123) dX5_joined_1.1 (by decide) (by rw [hc12]; decide) (by decide) ?_
                refine ab_iload_n C dX5_joined_123 rfl ?_
                refine ab_iload_n C dX5_joined_124 rfl ?_
                refine ab_icmp_ne C (tgt := 132) dX5_joined_125 (by decide) (fun hc13 => ?_) (fun hc13 => ?_)
                · replace h := ab_neg hc13 h
                  refine ab_iconst C dX5_joined_132 (v := 0) rfl ?_
                  refine ab_weak (lv' := [none, none, none]) ⟨.inl rfl, ⟨.inl rfl, ⟨.inl rfl, trivial⟩⟩⟩ ?_
                  exact gX5_joined_b133 C _ h
                · replace h := ab_pos hc13 h
                  refine ab_iconst C dX5_joined_128 (v := 1) rfl ?_
                  refine ab_goto C (tgt := 133) dX5_joined_129 (by decide) ?_
                  refine ab_weak (lv' := [none, none, none]) ⟨.inl rfl, ⟨.inl rfl, ⟨.inl rfl, trivial⟩⟩⟩ ?_
                  exact gX5_joined_b133 C _ h
              · replace h := ab_neg hc12 h
                by_cases hc14 : x0 = 62
                · replace h := ab_pos hc14 h
                  refine ab_lsw C (off := 133) (tgt := 134) dX5_joined_1.1 (by decide) (by rw [hc14]; decide) (by decide) ?_
                  refine ab_iload_n C dX5_joined_134 rfl ?_
                  refine ab_iload_n C dX5_joined_135 rfl ?_
                  refine ab_icmp_le C (tgt := 143) dX5_joined_136 (by decide) (fun hc15 => ?_) (fun hc15 => ?_)
                  · replace h := ab_pos hc15 h
                    refine ab_iconst C dX5_joined_143 (v := 0) rfl ?_
                    refine ab_weak (lv' := [none, none, none]) ⟨.inl rfl, ⟨.inl rfl, ⟨.inl rfl, trivial⟩⟩⟩ ?_
                    exact gX5_joined_b144 C _ h
                  · replace h := ab_neg hc15 h
                    refine ab_iconst C dX5_joined_139 (v := 1) rfl ?_
                    refine ab_goto C (tgt := 144) dX5_joined_140 (by decide) ?_
                    refine ab_weak (lv' := [none, none, none]) ⟨.inl rfl, ⟨.inl rfl, ⟨.inl rfl, trivial⟩⟩⟩ ?_
                    exact gX5_joined_b144 C _ h
                · replace h := ab_neg hc14 h
                  by_cases hc16 : x0 = 124
                  · replace h := ab_pos hc16 h
                    refine ab_lsw C (off := 83) (tgt := 84) dX5_joined_1.1 (by decide) (by rw [hc16]; decide) (by decide) ?_
                    refine ab_iload_n C dX5_joined_84 rfl ?_
                    refine ab_if_ne C (tgt := 92) dX5_joined_85 (by decide) (fun hc17 => ?_) (fun hc17 => ?_)
                    · replace h := ab_neg hc17 h
                      refine ab_weak (lv' := [none, none, none]) ⟨.inl rfl, ⟨.inl rfl, ⟨.inl rfl, trivial⟩⟩⟩ ?_
                      exact gX5_joined_b92 C h
                    · replace h := ab_pos hc17 h
                      refine ab_iload_n C dX5_joined_88 rfl ?_
                      refine ab_if_eq C (tgt := 96) dX5_joined_89 (by decide) (fun hc18 => ?_) (fun hc18 => ?_)
                      · replace h := ab_pos hc18 h
                        refine ab_iconst C dX5_joined_96 (v := 0) rfl ?_
                        refine ab_weak (lv' := [none, none, none]) ⟨.inl rfl, ⟨.inl rfl, ⟨.inl rfl, trivial⟩⟩⟩ ?_
                        exact gX5_joined_b97 C _ h
                      · replace h := ab_neg hc18 h
                        refine ab_weak (lv' := [none, none, none]) ⟨.inl rfl, ⟨.inl rfl, ⟨.inl rfl, trivial⟩⟩⟩ ?_
                        exact gX5_joined_b92 C h
                  · replace h := ab_neg hc16 h
                    refine ab_lsw C (off := 168) (tgt := 169) dX5_joined_1.1 (by decide) (by show Op.lookupswitch.offset [(38, 97), (42, 152), (43, 144), (45, 148), (47, 156), (60, 111), (61, 122), (62, 133), (124, 83)] 168 _ = 168; rw [lv_osw hc1 (by decide), lv_osw hc4 (by decide), lv_osw hc5 (by decide), lv_osw hc6 (by decide), lv_osw hc7 (by decide), lv_osw hc10 (by decide), lv_osw hc12 (by decide), lv_osw hc14 (by decide), lv_osw hc16 (by decide)]; rfl) (by decide) ?_
                    refine ab_iload_n C dX5_joined_169 rfl ?_
                    refine ab_if_ne C (tgt := 177) dX5_joined_170 (by decide) (fun hc19 => ?_) (fun hc19 => ?_)
                    · replace h := ab_neg hc19 h
                      refine ab_iload_n C dX5_joined_177 rfl ?_
                      refine ab_iload_n C dX5_joined_178 rfl ?_
                      obtain ⟨hg20, h⟩ := ab_grn h
                      refine ab_irem C dX5_joined_179 hg20 ?_
                      refine ab_weak (lv' := [none, none, none]) ⟨.inl rfl, ⟨.inl rfl, ⟨.inl rfl, trivial⟩⟩⟩ ?_
                      exact gX5_joined_b180 C _ h
                    · replace h := ab_pos hc19 h
                      refine ab_iconst C dX5_joined_173 (v := 0) rfl ?_
                      refine ab_goto C (tgt := 180) dX5_joined_174 (by decide) ?_
                      refine ab_weak (lv' := [none, none, none]) ⟨.inl rfl, ⟨.inl rfl, ⟨.inl rfl, trivial⟩⟩⟩ ?_
                      exact gX5_joined_b180 C _ h
end
