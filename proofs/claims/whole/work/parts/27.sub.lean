def yS : ab_Y := (yC.1, [(1, 0), (2, 0), (3, 0), (4, 0)], [])
theorem ndS : yS.2.1.Nodup := by decide +kernel
theorem rkS_1 : yS.1 1 = .inl (7, [some 2, some 3, some 4, none, none, none, none]) := rfl
theorem mmS_1 : ((1, 0) : Nat × Nat) ∈ yS.2.1 := by decide +kernel
theorem rkS_2 : yS.1 2 = .inr (0, 5, 0) := rfl
theorem mmS_2 : ((2, 0) : Nat × Nat) ∈ yS.2.1 := by decide +kernel
theorem rkS_3 : yS.1 3 = .inr (0, 5, 0) := rfl
theorem mmS_3 : ((3, 0) : Nat × Nat) ∈ yS.2.1 := by decide +kernel
theorem rkS_4 : yS.1 4 = .inr (0, 5, 0) := rfl
theorem mmS_4 : ((4, 0) : Nat × Nat) ∈ yS.2.1 := by decide +kernel
def yH : ab_Y := (yC.1, [(1, 0), (2, 0), (3, 0), (4, 0), (21, 0), (22, 0), (23, 0), (23, 1), (23, 2), (23, 3), (24, 0), (24, 1), (24, 2), (24, 3), (25, 0), (25, 1), (25, 2), (25, 3), (26, 0), (26, 1), (26, 2), (26, 3), (27, 0), (28, 0), (29, 0), (29, 1), (29, 2), (29, 3), (30, 0), (31, 0), (31, 1), (31, 2), (32, 0), (33, 0), (34, 0)], [])
theorem ndH : yH.2.1.Nodup := by decide +kernel
theorem rkH_1 : yH.1 1 = .inl (7, [some 2, some 3, some 4, none, none, none, none]) := rfl
theorem mmH_1 : ((1, 0) : Nat × Nat) ∈ yH.2.1 := by decide +kernel
theorem rkH_2 : yH.1 2 = .inr (0, 5, 0) := rfl
theorem mmH_2 : ((2, 0) : Nat × Nat) ∈ yH.2.1 := by decide +kernel
theorem rkH_3 : yH.1 3 = .inr (0, 5, 0) := rfl
theorem mmH_3 : ((3, 0) : Nat × Nat) ∈ yH.2.1 := by decide +kernel
theorem rkH_4 : yH.1 4 = .inr (0, 5, 0) := rfl
theorem mmH_4 : ((4, 0) : Nat × Nat) ∈ yH.2.1 := by decide +kernel
theorem rkH_21 : yH.1 21 = .inl (1, [some 1, some 22, some 27, some 28, some 30, some 32, some 33, some 34]) := rfl
theorem mmH_21 : ((21, 0) : Nat × Nat) ∈ yH.2.1 := by decide +kernel
theorem rkH_22 : yH.1 22 = .inr (3, 4, 23) := rfl
theorem mmH_22 : ((22, 0) : Nat × Nat) ∈ yH.2.1 := by decide +kernel
theorem rkH_23 : yH.1 23 = .inl (5, [some 24, some 25, some 26, none, none, none, none]) := rfl
theorem mmH_23 {k : Nat} (h : k < 4) : ((23, k) : Nat × Nat) ∈ yH.2.1 := by
  rcases (show k = 0 ∨ k = 1 ∨ k = 2 ∨ k = 3 by omega) with rfl | rfl | rfl | rfl
  all_goals decide +kernel
theorem rkH_24 : yH.1 24 = .inr (0, 121, 0) := rfl
theorem mmH_24 {k : Nat} (h : k < 4) : ((24, k) : Nat × Nat) ∈ yH.2.1 := by
  rcases (show k = 0 ∨ k = 1 ∨ k = 2 ∨ k = 3 by omega) with rfl | rfl | rfl | rfl
  all_goals decide +kernel
theorem rkH_25 : yH.1 25 = .inr (0, 121, 0) := rfl
theorem mmH_25 {k : Nat} (h : k < 4) : ((25, k) : Nat × Nat) ∈ yH.2.1 := by
  rcases (show k = 0 ∨ k = 1 ∨ k = 2 ∨ k = 3 by omega) with rfl | rfl | rfl | rfl
  all_goals decide +kernel
theorem rkH_26 : yH.1 26 = .inr (1, 750, 0) := rfl
theorem mmH_26 {k : Nat} (h : k < 4) : ((26, k) : Nat × Nat) ∈ yH.2.1 := by
  rcases (show k = 0 ∨ k = 1 ∨ k = 2 ∨ k = 3 by omega) with rfl | rfl | rfl | rfl
  all_goals decide +kernel
theorem rkH_27 : yH.1 27 = .inr (2, 5, 0) := rfl
theorem mmH_27 : ((27, 0) : Nat × Nat) ∈ yH.2.1 := by decide +kernel
theorem rkH_28 : yH.1 28 = .inr (4, 4, 29) := rfl
theorem mmH_28 : ((28, 0) : Nat × Nat) ∈ yH.2.1 := by decide +kernel
theorem rkH_29 : yH.1 29 = .inr (2, 5, 0) := rfl
theorem mmH_29 {k : Nat} (h : k < 4) : ((29, k) : Nat × Nat) ∈ yH.2.1 := by
  rcases (show k = 0 ∨ k = 1 ∨ k = 2 ∨ k = 3 by omega) with rfl | rfl | rfl | rfl
  all_goals decide +kernel
theorem rkH_30 : yH.1 30 = .inr (4, 3, 31) := rfl
theorem mmH_30 : ((30, 0) : Nat × Nat) ∈ yH.2.1 := by decide +kernel
theorem rkH_31 : yH.1 31 = .inr (2, 5, 0) := rfl
theorem mmH_31 {k : Nat} (h : k < 3) : ((31, k) : Nat × Nat) ∈ yH.2.1 := by
  rcases (show k = 0 ∨ k = 1 ∨ k = 2 by omega) with rfl | rfl | rfl
  all_goals decide +kernel
theorem rkH_32 : yH.1 32 = .inr (2, 4, 0) := rfl
theorem mmH_32 : ((32, 0) : Nat × Nat) ∈ yH.2.1 := by decide +kernel
theorem rkH_33 : yH.1 33 = .inr (0, 4, 0) := rfl
theorem mmH_33 : ((33, 0) : Nat × Nat) ∈ yH.2.1 := by decide +kernel
theorem rkH_34 : yH.1 34 = .inr (0, 4, 0) := rfl
theorem mmH_34 : ((34, 0) : Nat × Nat) ∈ yH.2.1 := by decide +kernel
def yV : ab_Y := (yC.1, [(40, 0)], [])
theorem ndV : yV.2.1.Nodup := by decide +kernel
theorem rkV_40 : yV.1 40 = .inr (0, 6, 0) := rfl
theorem mmV_40 : ((40, 0) : Nat × Nat) ∈ yV.2.1 := by decide +kernel
def fHJ7_fill_031fb_b5_o (kk5 : Nat → Int32 → Int32 → Int32 → ab_S → Option ab_S) (c0 : Nat) (v1 : Int32) (v2 : Int32) (v3 : Int32) (σ : ab_S) : Option ab_S := (if v3 ≤ v2 then some σ else (if ab_inb v2 750 = true then ab_k (ab_si σ 26 c0 v2.toNatClampNeg (vp_nar .byte v1)) fun σ3 => kk5 c0 v1 (v2 + 1) v3 σ3 else none))
def fHJ7_fill_031fb_b5 : Nat → Nat → Int32 → Int32 → Int32 → ab_S → Option ab_S
  | 0 => fun _ _ _ _ _ => none
  | n + 1 => fHJ7_fill_031fb_b5_o  (fHJ7_fill_031fb_b5 n)
def fHJ7_fill_031fb (k0 : Nat) (x1 : Int32) (σ : ab_S) : Option ab_S := fHJ7_fill_031fb_b5 ab_N k0 x1 0 (Int32.ofNat 750) σ
section
variable {p : Program} {l : Launch} {e : Env} {s : State} {m : MethodId} {args : Array Value} {below : List Frame} {meth : Method} {c : Code} {D : va_G} {cA : Nat → ClassId} {ad : Nat → Nat → Nat}
set_option maxRecDepth 100000 in
set_option maxHeartbeats 4000000 in
theorem gHJ7_fill_031fb_b5_o {R : ab_S} (C : ab_C yH p s m args meth c D cA ad cJ7_fill_031fb 4 RJ7 none) {kk5 : Nat → Int32 → Int32 → Int32 → ab_S → Option ab_S} (hk5 : ∀ (c0 : Nat) (v1 : Int32) (v2 : Int32) (v3 : Int32) (σ : ab_S), c0 < 4 → kk5 c0 v1 v2 v3 σ = some R → ab_G yH p l e s m args below meth c D cA ad 4 0 none R 5 [some (.inr (.inr (26, c0))), some (.inl v1), some (.inl v2), some (.inl v3)] [] σ) (c0 : Nat) (v1 : Int32) (v2 : Int32) (v3 : Int32) (σ : ab_S) (mc0 : c0 < 4) (h : fHJ7_fill_031fb_b5_o kk5 c0 v1 v2 v3 σ = some R) : ab_G yH p l e s m args below meth c D cA ad 4 0 none R 5 [some (.inr (.inr (26, c0))), some (.inl v1), some (.inl v2), some (.inl v3)] [] σ := by
  refine ab_iload_n C dJ7_fill_031fb_5 rfl ?_
  refine ab_iload_n C dJ7_fill_031fb_6 rfl ?_
  refine ab_icmp_ge C (tgt := 20) dJ7_fill_031fb_7 (by decide) (fun hc1 => ?_) (fun hc1 => ?_)
  · replace h := ab_pos hc1 h
    obtain rfl := Option.some.inj h
    exact ab_vret C dJ7_fill_031fb_20
  · replace h := ab_neg hc1 h
    refine ab_aload_n C dJ7_fill_031fb_10 rfl ?_
    refine ab_iload_n C dJ7_fill_031fb_11 rfl ?_
    refine ab_iload_n C dJ7_fill_031fb_12 rfl ?_
    obtain ⟨hg2, h⟩ := ab_grd h
    refine ab_bast C dJ7_fill_031fb_13 rkH_26 (mmH_26 (mc0)) hg2 ?_
    refine ab_nmS (fun σ3 eσ3 => ?_)
    replace h := ab_kh eσ3 h
    refine ab_iinc C dJ7_fill_031fb_14 rfl (v := 1) rfl (Nat.le_of_ble_eq_true rfl) ?_
    refine ab_goto C (tgt := 5) dJ7_fill_031fb_17 (by decide) ?_
    refine ab_weak (lv' := [some (.inr (.inr (26, c0))), some (.inl v1), some (.inl (v2 + 1)), some (.inl v3)]) ⟨.inr rfl, ⟨.inr rfl, ⟨.inr rfl, ⟨.inr rfl, trivial⟩⟩⟩⟩ ?_
    exact hk5 _ _ _ _ _ (mc0) h
theorem gHJ7_fill_031fb_b5 {R : ab_S} (C : ab_C yH p s m args meth c D cA ad cJ7_fill_031fb 4 RJ7 none) : ∀ (j : Nat) (c0 : Nat) (v1 : Int32) (v2 : Int32) (v3 : Int32) (σ : ab_S), c0 < 4 → fHJ7_fill_031fb_b5 j c0 v1 v2 v3 σ = some R → ab_G yH p l e s m args below meth c D cA ad 4 0 none R 5 [some (.inr (.inr (26, c0))), some (.inl v1), some (.inl v2), some (.inl v3)] [] σ := by
  intro j
  induction j with
  | zero => intro c0 v1 v2 v3 σ hh0 h; cases h
  | succ j ih => intro c0 v1 v2 v3 σ hh0 h; exact gHJ7_fill_031fb_b5_o C ih _ _ _ _ _ hh0 h
set_option maxRecDepth 100000 in
set_option maxHeartbeats 4000000 in
theorem tHJ7_fill_031fb (l : Launch) (k0 : Nat) (x1 : Int32) (σ : ab_S) (hk0 : k0 < 4) {R : ab_S} (h : fHJ7_fill_031fb k0 x1 σ = some R) : ab_M l yH yJ7_fill_031fb cJ7_fill_031fb 4 none 0 [.inr (.inr (26, k0)), .inl x1] σ none R := by
  refine ab_M_intro ndH (by decide) (Nat.le_of_ble_eq_true rfl) ?_
  intro p e s m args below meth c D cA ad C
  have C : ab_C yH p s m args meth c D cA ad cJ7_fill_031fb 4 RJ7 none := C
  refine ab_weak (lv' := [some (.inr (.inr (26, k0))), some (.inl x1), none, none]) ⟨.inr rfl, ⟨.inr rfl, ⟨.inl rfl, ⟨.inl rfl, trivial⟩⟩⟩⟩ ?_
  refine ab_iconst C dJ7_fill_031fb_0 (v := 0) rfl ?_
  refine ab_istore_n C dJ7_fill_031fb_1 (Nat.le_of_ble_eq_true rfl) ?_
  refine ab_aload_n C dJ7_fill_031fb_2 rfl ?_
  refine ab_alen C dJ7_fill_031fb_3 rkH_26 (Nat.le_of_ble_eq_true rfl) (mmH_26 (hk0)) ?_
  refine ab_istore_n C dJ7_fill_031fb_4 (Nat.le_of_ble_eq_true rfl) ?_
  refine ab_weak (lv' := [some (.inr (.inr (26, k0))), some (.inl x1), some (.inl 0), some (.inl (Int32.ofNat 750))]) ⟨.inr rfl, ⟨.inr rfl, ⟨.inr rfl, ⟨.inr rfl, trivial⟩⟩⟩⟩ ?_
  exact gHJ7_fill_031fb_b5 C ab_N _ _ _ _ _ (hk0) h
end
def fHX5_forget (k0 : Nat) (σ : ab_S) : Option ab_S := (fHJ7_fill_031fb k0 0 σ).bind fun q1 => some q1
section
variable {p : Program} {l : Launch} {e : Env} {s : State} {m : MethodId} {args : Array Value} {below : List Frame} {meth : Method} {c : Code} {D : va_G} {cA : Nat → ClassId} {ad : Nat → Nat → Nat}
set_option maxRecDepth 100000 in
set_option maxHeartbeats 4000000 in
theorem tHX5_forget (l : Launch) (k0 : Nat) (σ : ab_S) (hk0 : k0 < 4) {R : ab_S} (h : fHX5_forget k0 σ = some R) : ab_M l yH yX5_forget cX5_forget 1 none 1 [.inr (.inr (23, k0))] σ none R := by
  refine ab_M_intro ndH (by decide) (Nat.le_of_ble_eq_true rfl) ?_
  intro p e s m args below meth c D cA ad C
  have C : ab_C yH p s m args meth c D cA ad cX5_forget 1 RX5 none := C
  refine ab_weak (lv' := [some (.inr (.inr (23, k0)))]) ⟨.inr rfl, trivial⟩ ?_
  refine ab_aload_n C dX5_forget_0 rfl ?_
  refine ab_getR C dX5_forget_1 flX5_18 rkH_23 rfl (mmH_23 (hk0)) ?_
  refine ab_iconst C dX5_forget_4 (v := 0) rfl ?_
  obtain ⟨q1, hq1, h⟩ := ab_bind h
  refine ab_invS0 C dX5_forget_5 mlX5_48 ysJ7_fill_031fb (tHJ7_fill_031fb l _ _ _ (hk0) hq1) (Nat.le_of_ble_eq_true rfl) (Nat.le_of_ble_eq_true rfl) rfl (Nat.le_of_ble_eq_true rfl) ?_
  obtain rfl := Option.some.inj h
  exact ab_vret C dX5_forget_8
end
def fHX5_meet_b16 (σ : ab_S) : Option ab_S := some σ
def fHX5_meet (k0 : Nat) (x1 : Int32) (σ : ab_S) : Option ab_S := ab_k (ab_si σ 23 k0 6 x1) fun σ1 => (if (σ1.1 23 k0 5) = 0 then fHX5_meet_b16 σ1 else (fHX5_forget k0 σ1).bind fun q3 => fHX5_meet_b16 q3)
section
variable {p : Program} {l : Launch} {e : Env} {s : State} {m : MethodId} {args : Array Value} {below : List Frame} {meth : Method} {c : Code} {D : va_G} {cA : Nat → ClassId} {ad : Nat → Nat → Nat}
set_option maxRecDepth 100000 in
set_option maxHeartbeats 4000000 in
theorem gHX5_meet_b16 {R : ab_S} (C : ab_C yH p s m args meth c D cA ad cX5_meet 2 RX5 none) (σ : ab_S) (h : fHX5_meet_b16 σ = some R) : ab_G yH p l e s m args below meth c D cA ad 2 2 none R 16 [none, none] [] σ := by
  obtain rfl := Option.some.inj h
  exact ab_vret C dX5_meet_16
set_option maxRecDepth 100000 in
set_option maxHeartbeats 4000000 in
theorem tHX5_meet (l : Launch) (k0 : Nat) (x1 : Int32) (σ : ab_S) (hk0 : k0 < 4) {R : ab_S} (h : fHX5_meet k0 x1 σ = some R) : ab_M l yH yX5_meet cX5_meet 2 none 2 [.inr (.inr (23, k0)), .inl x1] σ none R := by
  refine ab_M_intro ndH (by decide) (Nat.le_of_ble_eq_true rfl) ?_
  intro p e s m args below meth c D cA ad C
  have C : ab_C yH p s m args meth c D cA ad cX5_meet 2 RX5 none := C
  refine ab_weak (lv' := [some (.inr (.inr (23, k0))), some (.inl x1)]) ⟨.inr rfl, ⟨.inr rfl, trivial⟩⟩ ?_
  refine ab_aload_n C dX5_meet_0 rfl ?_
  refine ab_iload_n C dX5_meet_1 rfl ?_
  refine ab_putI C dX5_meet_2 fpX5_45 rkH_23 rfl (mmH_23 (hk0)) rfl rfl ?_
  refine ab_nmS (fun σ1 eσ1 => ?_)
  replace h := ab_kh eσ1 h
  refine ab_aload_n C dX5_meet_5 rfl ?_
  refine ab_getI C dX5_meet_6 flX5_38 rkH_23 rfl (mmH_23 (hk0)) ?_
  refine ab_if_eq C (tgt := 16) dX5_meet_9 (by decide) (fun hc2 => ?_) (fun hc2 => ?_)
  · replace h := ab_pos hc2 h
    refine ab_weak (lv' := [none, none]) ⟨.inl rfl, ⟨.inl rfl, trivial⟩⟩ ?_
    exact gHX5_meet_b16 C _ h
  · replace h := ab_neg hc2 h
    refine ab_aload_n C dX5_meet_12 rfl ?_
    obtain ⟨q3, hq3, h⟩ := ab_bind h
    refine ab_inv0 C dX5_meet_13 mlX5_42 yvX5_forget rkH_23 ⟨_, _, rfl⟩ (mmH_23 (hk0)) (tHX5_forget l _ _ (hk0) hq3) (Nat.le_of_ble_eq_true rfl) (Nat.le_of_ble_eq_true rfl) rfl (Nat.le_of_ble_eq_true rfl) ?_
    refine ab_weak (lv' := [none, none]) ⟨.inl rfl, ⟨.inl rfl, trivial⟩⟩ ?_
    exact gHX5_meet_b16 C _ h
end
def fHX1_layLaws_b2_o (kk2 : Int32 → ab_S → Option ab_S) (v1 : Int32) (σ : ab_S) : Option ab_S := (if 4 ≤ v1 then some σ else (if ab_inb v1 4 = true then (fHX5_meet v1.toNatClampNeg (σ.1 1 0 3) σ).bind fun q3 => kk2 (v1 + 1) q3 else none))
def fHX1_layLaws_b2 : Nat → Int32 → ab_S → Option ab_S
  | 0 => fun _ _ => none
  | n + 1 => fHX1_layLaws_b2_o  (fHX1_layLaws_b2 n)
def fHX1_layLaws (σ : ab_S) : Option ab_S := fHX1_layLaws_b2 ab_N 0 σ
section
variable {p : Program} {l : Launch} {e : Env} {s : State} {m : MethodId} {args : Array Value} {below : List Frame} {meth : Method} {c : Code} {D : va_G} {cA : Nat → ClassId} {ad : Nat → Nat → Nat}
set_option maxRecDepth 100000 in
set_option maxHeartbeats 4000000 in
theorem gHX1_layLaws_b2_o {R : ab_S} (C : ab_C yH p s m args meth c D cA ad cX1_layLaws 2 RX1 none) {kk2 : Int32 → ab_S → Option ab_S} (hk2 : ∀ (v1 : Int32) (σ : ab_S), kk2 v1 σ = some R → ab_G yH p l e s m args below meth c D cA ad 2 3 none R 2 [some (.inr (.inr (21, 0))), some (.inl v1)] [] σ) (v1 : Int32) (σ : ab_S) (h : fHX1_layLaws_b2_o kk2 v1 σ = some R) : ab_G yH p l e s m args below meth c D cA ad 2 3 none R 2 [some (.inr (.inr (21, 0))), some (.inl v1)] [] σ := by
  refine ab_iload_n C dX1_layLaws_2 rfl ?_
  refine ab_iconst C dX1_layLaws_3 (v := 4) rfl ?_
  refine ab_icmp_ge C (tgt := 29) dX1_layLaws_4 (by decide) (fun hc1 => ?_) (fun hc1 => ?_)
  · replace h := ab_pos hc1 h
    obtain rfl := Option.some.inj h
    exact ab_vret C dX1_layLaws_29
  · replace h := ab_neg hc1 h
    refine ab_aload_n C dX1_layLaws_7 rfl ?_
    refine ab_getR C dX1_layLaws_8 flX1_11 rkH_21 rfl mmH_21 ?_
    refine ab_iload_n C dX1_layLaws_11 rfl ?_
    obtain ⟨hg2, h⟩ := ab_grd h
    refine ab_aald3 C dX1_layLaws_12 rkH_22 mmH_22 hg2 ?_
    refine ab_aload_n C dX1_layLaws_13 rfl ?_
    refine ab_getR C dX1_layLaws_14 flX1_39 rkH_21 rfl mmH_21 ?_
    refine ab_getI C dX1_layLaws_17 flX1_47 rkH_1 rfl mmH_1 ?_
    obtain ⟨q3, hq3, h⟩ := ab_bind h
    refine ab_inv0 C dX1_layLaws_20 mlX1_53 yvX5_meet rkH_23 ⟨_, _, rfl⟩ (mmH_23 (ab_inb_lt hg2)) (tHX5_meet l _ _ _ (ab_inb_lt hg2) hq3) (Nat.le_of_ble_eq_true rfl) (Nat.le_of_ble_eq_true rfl) rfl (Nat.le_of_ble_eq_true rfl) ?_
    refine ab_iinc C dX1_layLaws_23 rfl (v := 1) rfl (Nat.le_of_ble_eq_true rfl) ?_
    refine ab_goto C (tgt := 2) dX1_layLaws_26 (by decide) ?_
    refine ab_weak (lv' := [some (.inr (.inr (21, 0))), some (.inl (v1 + 1))]) ⟨.inr rfl, ⟨.inr rfl, trivial⟩⟩ ?_
    exact hk2 _ _ h
theorem gHX1_layLaws_b2 {R : ab_S} (C : ab_C yH p s m args meth c D cA ad cX1_layLaws 2 RX1 none) : ∀ (j : Nat) (v1 : Int32) (σ : ab_S), fHX1_layLaws_b2 j v1 σ = some R → ab_G yH p l e s m args below meth c D cA ad 2 3 none R 2 [some (.inr (.inr (21, 0))), some (.inl v1)] [] σ := by
  intro j
  induction j with
  | zero => intro v1 σ  h; cases h
  | succ j ih => intro v1 σ  h; exact gHX1_layLaws_b2_o C ih _ _ h
set_option maxRecDepth 100000 in
set_option maxHeartbeats 4000000 in
theorem tHX1_layLaws (l : Launch) (σ : ab_S) {R : ab_S} (h : fHX1_layLaws σ = some R) : ab_M l yH yX1_layLaws cX1_layLaws 2 none 3 [.inr (.inr (21, 0))] σ none R := by
  refine ab_M_intro ndH (by decide) (Nat.le_of_ble_eq_true rfl) ?_
  intro p e s m args below meth c D cA ad C
  have C : ab_C yH p s m args meth c D cA ad cX1_layLaws 2 RX1 none := C
  refine ab_weak (lv' := [some (.inr (.inr (21, 0))), none]) ⟨.inr rfl, ⟨.inl rfl, trivial⟩⟩ ?_
  refine ab_iconst C dX1_layLaws_0 (v := 0) rfl ?_
  refine ab_istore_n C dX1_layLaws_1 (Nat.le_of_ble_eq_true rfl) ?_
  refine ab_weak (lv' := [some (.inr (.inr (21, 0))), some (.inl 0)]) ⟨.inr rfl, ⟨.inr rfl, trivial⟩⟩ ?_
  exact gHX1_layLaws_b2 C ab_N _ _ h
end
def fSJ7_fill_53178_r2_b5_o (kk5 : Int32 → Int32 → Int32 → ab_S → Option ab_S) (v1 : Int32) (v2 : Int32) (v3 : Int32) (σ : ab_S) : Option ab_S := (if v3 ≤ v2 then some σ else (if ab_inb v2 5 = true then ab_k (ab_si σ 2 0 v2.toNatClampNeg v1) fun σ3 => kk5 v1 (v2 + 1) v3 σ3 else none))
def fSJ7_fill_53178_r2_b5 : Nat → Int32 → Int32 → Int32 → ab_S → Option ab_S
  | 0 => fun _ _ _ _ => none
  | n + 1 => fSJ7_fill_53178_r2_b5_o  (fSJ7_fill_53178_r2_b5 n)
def fSJ7_fill_53178_r2 (x1 : Int32) (σ : ab_S) : Option ab_S := fSJ7_fill_53178_r2_b5 ab_N x1 0 (Int32.ofNat 5) σ
section
variable {p : Program} {l : Launch} {e : Env} {s : State} {m : MethodId} {args : Array Value} {below : List Frame} {meth : Method} {c : Code} {D : va_G} {cA : Nat → ClassId} {ad : Nat → Nat → Nat}
set_option maxRecDepth 100000 in
set_option maxHeartbeats 4000000 in
theorem gSJ7_fill_53178_r2_b5_o {R : ab_S} (C : ab_C yS p s m args meth c D cA ad cJ7_fill_53178 4 RJ7 none) {kk5 : Int32 → Int32 → Int32 → ab_S → Option ab_S} (hk5 : ∀ (v1 : Int32) (v2 : Int32) (v3 : Int32) (σ : ab_S), kk5 v1 v2 v3 σ = some R → ab_G yS p l e s m args below meth c D cA ad 4 0 none R 5 [some (.inr (.inr (2, 0))), some (.inl v1), some (.inl v2), some (.inl v3)] [] σ) (v1 : Int32) (v2 : Int32) (v3 : Int32) (σ : ab_S) (h : fSJ7_fill_53178_r2_b5_o kk5 v1 v2 v3 σ = some R) : ab_G yS p l e s m args below meth c D cA ad 4 0 none R 5 [some (.inr (.inr (2, 0))), some (.inl v1), some (.inl v2), some (.inl v3)] [] σ := by
  refine ab_iload_n C dJ7_fill_53178_5 rfl ?_
  refine ab_iload_n C dJ7_fill_53178_6 rfl ?_
  refine ab_icmp_ge C (tgt := 20) dJ7_fill_53178_7 (by decide) (fun hc1 => ?_) (fun hc1 => ?_)
  · replace h := ab_pos hc1 h
    obtain rfl := Option.some.inj h
    exact ab_vret C dJ7_fill_53178_20
  · replace h := ab_neg hc1 h
    refine ab_aload_n C dJ7_fill_53178_10 rfl ?_
    refine ab_iload_n C dJ7_fill_53178_11 rfl ?_
    refine ab_iload_n C dJ7_fill_53178_12 rfl ?_
    obtain ⟨hg2, h⟩ := ab_grd h
    refine ab_iast C dJ7_fill_53178_13 rkS_2 mmS_2 hg2 ?_
    refine ab_nmS (fun σ3 eσ3 => ?_)
    replace h := ab_kh eσ3 h
    refine ab_iinc C dJ7_fill_53178_14 rfl (v := 1) rfl (Nat.le_of_ble_eq_true rfl) ?_
    refine ab_goto C (tgt := 5) dJ7_fill_53178_17 (by decide) ?_
    refine ab_weak (lv' := [some (.inr (.inr (2, 0))), some (.inl v1), some (.inl (v2 + 1)), some (.inl v3)]) ⟨.inr rfl, ⟨.inr rfl, ⟨.inr rfl, ⟨.inr rfl, trivial⟩⟩⟩⟩ ?_
    exact hk5 _ _ _ _ h
theorem gSJ7_fill_53178_r2_b5 {R : ab_S} (C : ab_C yS p s m args meth c D cA ad cJ7_fill_53178 4 RJ7 none) : ∀ (j : Nat) (v1 : Int32) (v2 : Int32) (v3 : Int32) (σ : ab_S), fSJ7_fill_53178_r2_b5 j v1 v2 v3 σ = some R → ab_G yS p l e s m args below meth c D cA ad 4 0 none R 5 [some (.inr (.inr (2, 0))), some (.inl v1), some (.inl v2), some (.inl v3)] [] σ := by
  intro j
  induction j with
  | zero => intro v1 v2 v3 σ  h; cases h
  | succ j ih => intro v1 v2 v3 σ  h; exact gSJ7_fill_53178_r2_b5_o C ih _ _ _ _ h
set_option maxRecDepth 100000 in
set_option maxHeartbeats 4000000 in
theorem tSJ7_fill_53178_r2 (l : Launch) (x1 : Int32) (σ : ab_S) {R : ab_S} (h : fSJ7_fill_53178_r2 x1 σ = some R) : ab_M l yS yJ7_fill_53178 cJ7_fill_53178 4 none 0 [.inr (.inr (2, 0)), .inl x1] σ none R := by
  refine ab_M_intro ndS (by decide) (Nat.le_of_ble_eq_true rfl) ?_
  intro p e s m args below meth c D cA ad C
  have C : ab_C yS p s m args meth c D cA ad cJ7_fill_53178 4 RJ7 none := C
  refine ab_weak (lv' := [some (.inr (.inr (2, 0))), some (.inl x1), none, none]) ⟨.inr rfl, ⟨.inr rfl, ⟨.inl rfl, ⟨.inl rfl, trivial⟩⟩⟩⟩ ?_
  refine ab_iconst C dJ7_fill_53178_0 (v := 0) rfl ?_
  refine ab_istore_n C dJ7_fill_53178_1 (Nat.le_of_ble_eq_true rfl) ?_
  refine ab_aload_n C dJ7_fill_53178_2 rfl ?_
  refine ab_alen C dJ7_fill_53178_3 rkS_2 (Nat.le_of_ble_eq_true rfl) mmS_2 ?_
  refine ab_istore_n C dJ7_fill_53178_4 (Nat.le_of_ble_eq_true rfl) ?_
  refine ab_weak (lv' := [some (.inr (.inr (2, 0))), some (.inl x1), some (.inl 0), some (.inl (Int32.ofNat 5))]) ⟨.inr rfl, ⟨.inr rfl, ⟨.inr rfl, ⟨.inr rfl, trivial⟩⟩⟩⟩ ?_
  exact gSJ7_fill_53178_r2_b5 C ab_N _ _ _ _ h
end
def fSJ7_fill_53178_r3_b5_o (kk5 : Int32 → Int32 → Int32 → ab_S → Option ab_S) (v1 : Int32) (v2 : Int32) (v3 : Int32) (σ : ab_S) : Option ab_S := (if v3 ≤ v2 then some σ else (if ab_inb v2 5 = true then ab_k (ab_si σ 3 0 v2.toNatClampNeg v1) fun σ3 => kk5 v1 (v2 + 1) v3 σ3 else none))
def fSJ7_fill_53178_r3_b5 : Nat → Int32 → Int32 → Int32 → ab_S → Option ab_S
  | 0 => fun _ _ _ _ => none
  | n + 1 => fSJ7_fill_53178_r3_b5_o  (fSJ7_fill_53178_r3_b5 n)
def fSJ7_fill_53178_r3 (x1 : Int32) (σ : ab_S) : Option ab_S := fSJ7_fill_53178_r3_b5 ab_N x1 0 (Int32.ofNat 5) σ
section
variable {p : Program} {l : Launch} {e : Env} {s : State} {m : MethodId} {args : Array Value} {below : List Frame} {meth : Method} {c : Code} {D : va_G} {cA : Nat → ClassId} {ad : Nat → Nat → Nat}
set_option maxRecDepth 100000 in
set_option maxHeartbeats 4000000 in
theorem gSJ7_fill_53178_r3_b5_o {R : ab_S} (C : ab_C yS p s m args meth c D cA ad cJ7_fill_53178 4 RJ7 none) {kk5 : Int32 → Int32 → Int32 → ab_S → Option ab_S} (hk5 : ∀ (v1 : Int32) (v2 : Int32) (v3 : Int32) (σ : ab_S), kk5 v1 v2 v3 σ = some R → ab_G yS p l e s m args below meth c D cA ad 4 0 none R 5 [some (.inr (.inr (3, 0))), some (.inl v1), some (.inl v2), some (.inl v3)] [] σ) (v1 : Int32) (v2 : Int32) (v3 : Int32) (σ : ab_S) (h : fSJ7_fill_53178_r3_b5_o kk5 v1 v2 v3 σ = some R) : ab_G yS p l e s m args below meth c D cA ad 4 0 none R 5 [some (.inr (.inr (3, 0))), some (.inl v1), some (.inl v2), some (.inl v3)] [] σ := by
  refine ab_iload_n C dJ7_fill_53178_5 rfl ?_
  refine ab_iload_n C dJ7_fill_53178_6 rfl ?_
  refine ab_icmp_ge C (tgt := 20) dJ7_fill_53178_7 (by decide) (fun hc1 => ?_) (fun hc1 => ?_)
  · replace h := ab_pos hc1 h
    obtain rfl := Option.some.inj h
    exact ab_vret C dJ7_fill_53178_20
  · replace h := ab_neg hc1 h
    refine ab_aload_n C dJ7_fill_53178_10 rfl ?_
    refine ab_iload_n C dJ7_fill_53178_11 rfl ?_
    refine ab_iload_n C dJ7_fill_53178_12 rfl ?_
    obtain ⟨hg2, h⟩ := ab_grd h
    refine ab_iast C dJ7_fill_53178_13 rkS_3 mmS_3 hg2 ?_
    refine ab_nmS (fun σ3 eσ3 => ?_)
    replace h := ab_kh eσ3 h
    refine ab_iinc C dJ7_fill_53178_14 rfl (v := 1) rfl (Nat.le_of_ble_eq_true rfl) ?_
    refine ab_goto C (tgt := 5) dJ7_fill_53178_17 (by decide) ?_
    refine ab_weak (lv' := [some (.inr (.inr (3, 0))), some (.inl v1), some (.inl (v2 + 1)), some (.inl v3)]) ⟨.inr rfl, ⟨.inr rfl, ⟨.inr rfl, ⟨.inr rfl, trivial⟩⟩⟩⟩ ?_
    exact hk5 _ _ _ _ h
theorem gSJ7_fill_53178_r3_b5 {R : ab_S} (C : ab_C yS p s m args meth c D cA ad cJ7_fill_53178 4 RJ7 none) : ∀ (j : Nat) (v1 : Int32) (v2 : Int32) (v3 : Int32) (σ : ab_S), fSJ7_fill_53178_r3_b5 j v1 v2 v3 σ = some R → ab_G yS p l e s m args below meth c D cA ad 4 0 none R 5 [some (.inr (.inr (3, 0))), some (.inl v1), some (.inl v2), some (.inl v3)] [] σ := by
  intro j
  induction j with
  | zero => intro v1 v2 v3 σ  h; cases h
  | succ j ih => intro v1 v2 v3 σ  h; exact gSJ7_fill_53178_r3_b5_o C ih _ _ _ _ h
set_option maxRecDepth 100000 in
set_option maxHeartbeats 4000000 in
theorem tSJ7_fill_53178_r3 (l : Launch) (x1 : Int32) (σ : ab_S) {R : ab_S} (h : fSJ7_fill_53178_r3 x1 σ = some R) : ab_M l yS yJ7_fill_53178 cJ7_fill_53178 4 none 0 [.inr (.inr (3, 0)), .inl x1] σ none R := by
  refine ab_M_intro ndS (by decide) (Nat.le_of_ble_eq_true rfl) ?_
  intro p e s m args below meth c D cA ad C
  have C : ab_C yS p s m args meth c D cA ad cJ7_fill_53178 4 RJ7 none := C
  refine ab_weak (lv' := [some (.inr (.inr (3, 0))), some (.inl x1), none, none]) ⟨.inr rfl, ⟨.inr rfl, ⟨.inl rfl, ⟨.inl rfl, trivial⟩⟩⟩⟩ ?_
  refine ab_iconst C dJ7_fill_53178_0 (v := 0) rfl ?_
  refine ab_istore_n C dJ7_fill_53178_1 (Nat.le_of_ble_eq_true rfl) ?_
  refine ab_aload_n C dJ7_fill_53178_2 rfl ?_
  refine ab_alen C dJ7_fill_53178_3 rkS_3 (Nat.le_of_ble_eq_true rfl) mmS_3 ?_
  refine ab_istore_n C dJ7_fill_53178_4 (Nat.le_of_ble_eq_true rfl) ?_
  refine ab_weak (lv' := [some (.inr (.inr (3, 0))), some (.inl x1), some (.inl 0), some (.inl (Int32.ofNat 5))]) ⟨.inr rfl, ⟨.inr rfl, ⟨.inr rfl, ⟨.inr rfl, trivial⟩⟩⟩⟩ ?_
  exact gSJ7_fill_53178_r3_b5 C ab_N _ _ _ _ h
end
def fSX7_lay (x1 : Int32) (σ : ab_S) : Option ab_S := ab_k (ab_si σ 1 0 3 x1) fun σ1 => (fSJ7_fill_53178_r2 1 σ1).bind fun q2 => (fSJ7_fill_53178_r3 0 q2).bind fun q3 => ab_k (ab_si q3 1 0 6 ((q3.1 1 0 6) + 1)) fun σ4 => some σ4
section
variable {p : Program} {l : Launch} {e : Env} {s : State} {m : MethodId} {args : Array Value} {below : List Frame} {meth : Method} {c : Code} {D : va_G} {cA : Nat → ClassId} {ad : Nat → Nat → Nat}
set_option maxRecDepth 100000 in
set_option maxHeartbeats 4000000 in
theorem tSX7_lay (l : Launch) (x1 : Int32) (σ : ab_S) {R : ab_S} (h : fSX7_lay x1 σ = some R) : ab_M l yS yX7_lay cX7_lay 2 none 1 [.inr (.inr (1, 0)), .inl x1] σ none R := by
  refine ab_M_intro ndS (by decide) (Nat.le_of_ble_eq_true rfl) ?_
  intro p e s m args below meth c D cA ad C
  have C : ab_C yS p s m args meth c D cA ad cX7_lay 2 RX7 none := C
  refine ab_weak (lv' := [some (.inr (.inr (1, 0))), some (.inl x1)]) ⟨.inr rfl, ⟨.inr rfl, trivial⟩⟩ ?_
  refine ab_aload_n C dX7_lay_0 rfl ?_
  refine ab_iload_n C dX7_lay_1 rfl ?_
  refine ab_putI C dX7_lay_2 fpX7_32 rkS_1 rfl mmS_1 rfl rfl ?_
  refine ab_nmS (fun σ1 eσ1 => ?_)
  replace h := ab_kh eσ1 h
  refine ab_aload_n C dX7_lay_5 rfl ?_
  refine ab_getR C dX7_lay_6 flX7_9 rkS_1 rfl mmS_1 ?_
  refine ab_iconst C dX7_lay_9 (v := 1) rfl ?_
  obtain ⟨q2, hq2, h⟩ := ab_bind h
  refine ab_invS0 C dX7_lay_10 mlX7_35 ysJ7_fill_53178 (tSJ7_fill_53178_r2 l _ _ hq2) (Nat.le_of_ble_eq_true rfl) (Nat.le_of_ble_eq_true rfl) rfl (Nat.le_of_ble_eq_true rfl) ?_
  refine ab_aload_n C dX7_lay_13 rfl ?_
  refine ab_getR C dX7_lay_14 flX7_15 rkS_1 rfl mmS_1 ?_
  refine ab_iconst C dX7_lay_17 (v := 0) rfl ?_
  obtain ⟨q3, hq3, h⟩ := ab_bind h
  refine ab_invS0 C dX7_lay_18 mlX7_35 ysJ7_fill_53178 (tSJ7_fill_53178_r3 l _ _ hq3) (Nat.le_of_ble_eq_true rfl) (Nat.le_of_ble_eq_true rfl) rfl (Nat.le_of_ble_eq_true rfl) ?_
  refine ab_aload_n C dX7_lay_21 rfl ?_
  refine ab_dup C dX7_lay_22 rfl ?_
  refine ab_getI C dX7_lay_23 flX7_41 rkS_1 rfl mmS_1 ?_
  refine ab_iconst C dX7_lay_26 (v := 1) rfl ?_
  refine ab_iadd C dX7_lay_27  ?_
  refine ab_putI C dX7_lay_28 fpX7_41 rkS_1 rfl mmS_1 rfl rfl ?_
  refine ab_nmS (fun σ4 eσ4 => ?_)
  replace h := ab_kh eσ4 h
  obtain rfl := Option.some.inj h
  exact ab_vret C dX7_lay_31
end
def fVJ7_fill_53178_b5_o (kk5 : Int32 → Int32 → Int32 → ab_S → Option ab_S) (v1 : Int32) (v2 : Int32) (v3 : Int32) (σ : ab_S) : Option ab_S := (if v3 ≤ v2 then some σ else (if ab_inb v2 6 = true then ab_k (ab_si σ 40 0 v2.toNatClampNeg v1) fun σ3 => kk5 v1 (v2 + 1) v3 σ3 else none))
def fVJ7_fill_53178_b5 : Nat → Int32 → Int32 → Int32 → ab_S → Option ab_S
  | 0 => fun _ _ _ _ => none
  | n + 1 => fVJ7_fill_53178_b5_o  (fVJ7_fill_53178_b5 n)
def fVJ7_fill_53178 (x1 : Int32) (σ : ab_S) : Option ab_S := fVJ7_fill_53178_b5 ab_N x1 0 (Int32.ofNat 6) σ
section
variable {p : Program} {l : Launch} {e : Env} {s : State} {m : MethodId} {args : Array Value} {below : List Frame} {meth : Method} {c : Code} {D : va_G} {cA : Nat → ClassId} {ad : Nat → Nat → Nat}
set_option maxRecDepth 100000 in
set_option maxHeartbeats 4000000 in
theorem gVJ7_fill_53178_b5_o {R : ab_S} (C : ab_C yV p s m args meth c D cA ad cJ7_fill_53178 4 RJ7 none) {kk5 : Int32 → Int32 → Int32 → ab_S → Option ab_S} (hk5 : ∀ (v1 : Int32) (v2 : Int32) (v3 : Int32) (σ : ab_S), kk5 v1 v2 v3 σ = some R → ab_G yV p l e s m args below meth c D cA ad 4 0 none R 5 [some (.inr (.inr (40, 0))), some (.inl v1), some (.inl v2), some (.inl v3)] [] σ) (v1 : Int32) (v2 : Int32) (v3 : Int32) (σ : ab_S) (h : fVJ7_fill_53178_b5_o kk5 v1 v2 v3 σ = some R) : ab_G yV p l e s m args below meth c D cA ad 4 0 none R 5 [some (.inr (.inr (40, 0))), some (.inl v1), some (.inl v2), some (.inl v3)] [] σ := by
  refine ab_iload_n C dJ7_fill_53178_5 rfl ?_
  refine ab_iload_n C dJ7_fill_53178_6 rfl ?_
  refine ab_icmp_ge C (tgt := 20) dJ7_fill_53178_7 (by decide) (fun hc1 => ?_) (fun hc1 => ?_)
  · replace h := ab_pos hc1 h
    obtain rfl := Option.some.inj h
    exact ab_vret C dJ7_fill_53178_20
  · replace h := ab_neg hc1 h
    refine ab_aload_n C dJ7_fill_53178_10 rfl ?_
    refine ab_iload_n C dJ7_fill_53178_11 rfl ?_
    refine ab_iload_n C dJ7_fill_53178_12 rfl ?_
    obtain ⟨hg2, h⟩ := ab_grd h
    refine ab_iast C dJ7_fill_53178_13 rkV_40 mmV_40 hg2 ?_
    refine ab_nmS (fun σ3 eσ3 => ?_)
    replace h := ab_kh eσ3 h
    refine ab_iinc C dJ7_fill_53178_14 rfl (v := 1) rfl (Nat.le_of_ble_eq_true rfl) ?_
    refine ab_goto C (tgt := 5) dJ7_fill_53178_17 (by decide) ?_
    refine ab_weak (lv' := [some (.inr (.inr (40, 0))), some (.inl v1), some (.inl (v2 + 1)), some (.inl v3)]) ⟨.inr rfl, ⟨.inr rfl, ⟨.inr rfl, ⟨.inr rfl, trivial⟩⟩⟩⟩ ?_
    exact hk5 _ _ _ _ h
theorem gVJ7_fill_53178_b5 {R : ab_S} (C : ab_C yV p s m args meth c D cA ad cJ7_fill_53178 4 RJ7 none) : ∀ (j : Nat) (v1 : Int32) (v2 : Int32) (v3 : Int32) (σ : ab_S), fVJ7_fill_53178_b5 j v1 v2 v3 σ = some R → ab_G yV p l e s m args below meth c D cA ad 4 0 none R 5 [some (.inr (.inr (40, 0))), some (.inl v1), some (.inl v2), some (.inl v3)] [] σ := by
  intro j
  induction j with
  | zero => intro v1 v2 v3 σ  h; cases h
  | succ j ih => intro v1 v2 v3 σ  h; exact gVJ7_fill_53178_b5_o C ih _ _ _ _ h
set_option maxRecDepth 100000 in
set_option maxHeartbeats 4000000 in
theorem tVJ7_fill_53178 (l : Launch) (x1 : Int32) (σ : ab_S) {R : ab_S} (h : fVJ7_fill_53178 x1 σ = some R) : ab_M l yV yJ7_fill_53178 cJ7_fill_53178 4 none 0 [.inr (.inr (40, 0)), .inl x1] σ none R := by
  refine ab_M_intro ndV (by decide) (Nat.le_of_ble_eq_true rfl) ?_
  intro p e s m args below meth c D cA ad C
  have C : ab_C yV p s m args meth c D cA ad cJ7_fill_53178 4 RJ7 none := C
  refine ab_weak (lv' := [some (.inr (.inr (40, 0))), some (.inl x1), none, none]) ⟨.inr rfl, ⟨.inr rfl, ⟨.inl rfl, ⟨.inl rfl, trivial⟩⟩⟩⟩ ?_
  refine ab_iconst C dJ7_fill_53178_0 (v := 0) rfl ?_
  refine ab_istore_n C dJ7_fill_53178_1 (Nat.le_of_ble_eq_true rfl) ?_
  refine ab_aload_n C dJ7_fill_53178_2 rfl ?_
  refine ab_alen C dJ7_fill_53178_3 rkV_40 (Nat.le_of_ble_eq_true rfl) mmV_40 ?_
  refine ab_istore_n C dJ7_fill_53178_4 (Nat.le_of_ble_eq_true rfl) ?_
  refine ab_weak (lv' := [some (.inr (.inr (40, 0))), some (.inl x1), some (.inl 0), some (.inl (Int32.ofNat 6))]) ⟨.inr rfl, ⟨.inr rfl, ⟨.inr rfl, ⟨.inr rfl, trivial⟩⟩⟩⟩ ?_
  exact gVJ7_fill_53178_b5 C ab_N _ _ _ _ h
end
theorem ac_someD {α : Type} {o : Option α} {d : α} (h : o.isSome = true) : o = some (o.getD d) := by
  cases o with
  | none => cases h
  | some x => rfl
def s0S1 : ab_S := (fun r _ j => if r = 1 ∧ j = 5 then 1 else 0, fun _ _ _ => 0)
def s0S : ab_S := (fSX7_lay 3 s0S1).getD s0S1
theorem e0S : fSX7_lay 3 s0S1 = some s0S := ac_someD (by decide +kernel)
def s0H1 : ab_S := (fun r k j => if r ≤ 4 then s0S.1 r k j else 0, fun _ _ _ => 0)
def s0H : ab_S := (fHX1_layLaws s0H1).getD s0H1
theorem e0H : fHX1_layLaws s0H1 = some s0H := ac_someD (by decide +kernel)
def s0V1 : ab_S := (fun _ _ _ => 0, fun _ _ _ => 0)
def s0V : ab_S := (fVJ7_fill_53178 (-1) s0V1).getD s0V1
theorem e0V : fVJ7_fill_53178 (-1) s0V1 = some s0V := ac_someD (by decide +kernel)
def s0C : ab_S := (fun r k j => if r = 40 then s0V.1 r k j else if r ≤ 4 ∧ 1 ≤ r ∨ 21 ≤ r ∧ r ≤ 34 then s0H.1 r k j else 0, fun r k j => if 21 ≤ r ∧ r ≤ 34 then s0H.2 r k j else 0)
def s0M1 : ab_S := (fun r _ => if r = 20 then upd (upd (upd (upd (upd (upd (fun _ => 0) 0 (-1)) 1 (-1)) 2 (-1)) 3 (-1)) 4 (-1)) 5 (-1) else if r = 10 then upd (upd (upd (upd (fun _ => 0) 0 (-1)) 1 (-1)) 2 (-1)) 3 (-1) else if r = 1 then upd (fun _ => 0) 6 1 else fun _ => 0, fun _ _ _ => 0)
def s0M : ab_S := (fX10_sets 3 s0M1).getD s0M1
theorem e0M : fX10_sets 3 s0M1 = some s0M := ac_someD (by decide +kernel)
