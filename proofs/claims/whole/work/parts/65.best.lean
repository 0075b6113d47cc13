/-! PURE, 34: the greatest, by both -/
theorem bst_0 {f : Nat → Nat} {d : Nat} : bst f (d + 1) = if d = 0 ∨ (bst f d).1 < f d then (f d, d) else bst f d := rfl
/-- the best so far, as it is held -/
def bv (f : Nat → Nat) (d : Nat) : Int64 := if d = 0 then -1 else lN (bst f d).1
theorem bv_cmp {f : Nat → Nat} {d n : Nat} (hf : ∀ d, d < n → f d < 2 ^ 63) (hd : d < n) : (lg_cmp (lN (f d)) (bv f d) ≤ 0) ↔ ¬ (d = 0 ∨ (bst f d).1 < f d) := by
  unfold bv
  have h1 := hf d hd
  by_cases h0 : d = 0
  · subst h0
    rw [if_pos rfl]
    refine ⟨fun z => ?_, fun z => absurd (Or.inl rfl) z⟩
    rw [lg_cmp_le, Int64.le_iff_toInt_le, pk_lT h1, show ((-1 : Int64)).toInt = -1 from by decide] at z
    omega
  · rw [if_neg h0]
    have h2 : (bst f d).1 ≤ 2 ^ 63 - 1 := bst_le d (fun e he => by have := hf e (by omega); omega)
    rw [lg_cmp_le, pk_lLE h1 (by omega)]
    omega
def bestM (n A : Nat) (T : Nat → Nat → Nat → Nat → Nat → Nat) (W : Nat → Nat) : Nat → Nat := fun d => HV 4 n 3 T A 0 0 d W
def bestC (n A : Nat) (T : Nat → Nat → Nat → Nat → Nat → Nat) (W : Nat → Nat) : Nat → Nat := fun d => HV (n - 1) n 3 T A 0 0 d W
theorem best_sc {n A : Nat} {T : Nat → Nat → Nat → Nat → Nat → Nat} {W : Nat → Nat} (n5 : n ≤ 5) : bst (bestM n A T W) n = (12 ^ ((5 - n) * A) * (bst (bestC n A T W) n).1, (bst (bestC n A T W) n).2) := by
  rw [← bst_sc (Nat.pow_pos (by decide))]
  exact bst_congr n (fun d hd => HV_sc n5 hd)
theorem best_BV {n A : Nat} {T : Nat → Nat → Nat → Nat → Nat → Nat} {W : Nat → Nat} (hA1 : 1 ≤ A) : bst (bestC n A T W) n = BV n A T W := by
  obtain ⟨B, rfl⟩ : ∃ B, A = B + 1 := ⟨A - 1, by omega⟩
  rfl
/-- the reference's best against a host -/
theorem ba_L {n A h : Nat} {W : Nat → Nat} {σc σ0 : ab_S} (n5 : n ≤ 5) (hh : h < 4) (hA : A ≤ 3) (hW : ∀ d, d < n → W d ≤ 12) : ∀ (k c fuel : Nat) (σ : ab_S), c + k = n → k < fuel → EnM n A σc σ → mM σ = mM σ0 → (∀ x, x < n → σ.2 13 0 x = lN (W x)) → (0 < c → σ.1 0 0 25 = nI (bst (bestM n A (tw σc h) W) c).2) →
    ∃ σ', fX10_bestAgainst_b11 fuel (nI h) (bv (bestM n A (tw σc h) W) c) (nI c) σ = some (bv (bestM n A (tw σc h) W) n, σ') ∧ mM σ' = mM σ0 ∧ EnM n A σc σ' ∧ (0 < n → σ'.1 0 0 25 = nI (bst (bestM n A (tw σc h) W) n).2) := by
  have hT : ∀ a r c d x, tw σc h a r c d x ≤ 12 := fun a r c d x => twV_le _ _ _ _ _ _ _ _ _
  have hf : ∀ d, d < n → bestM n A (tw σc h) W d < 2 ^ 63 := fun d hd => HV_b (by omega) n5 (by omega) (by omega) hA hd hW
  intro k
  induction k with
  | zero =>
    intro c fuel σ h1 h2 hE hm hw hb
    obtain ⟨f, rfl⟩ : ∃ f, fuel = f + 1 := ⟨fuel - 1, by omega⟩
    have hcn : c = n := by omega
    subst hcn
    refine ⟨σ, ?_, hm, hE, hb⟩
    show fX10_bestAgainst_b11_o _ _ _ _ _ = _
    unfold fX10_bestAgainst_b11_o
    rw [hE.2.1, if_pos (pu_le (by omega))]
  | succ k ih =>
    intro c fuel σ h1 h2 hE hm hw hb
    obtain ⟨f, rfl⟩ : ∃ f, fuel = f + 1 := ⟨fuel - 1, by omega⟩
    obtain ⟨σ1, q1, q2⟩ := bw_ok (h := h) n5 hh hA hT A 64 (by omega) 0 0 c W σ (by omega) hE (by omega) (by omega) (fun x hx => by rw [Nat.mul_zero, Nat.zero_add]; exact hw x hx) (fun x hx => by rw [Nat.mul_zero, Nat.pow_zero]; exact hW x hx)
    have q1' : fX10_bestWith 64 (nI h) 0 (nI c) 0 σ = some (lN (bestM n A (tw σc h) W c), σ1) := q1
    have cmp := bv_cmp hf (show c < n by omega)
    have hE1 := EnM_fr hE q2
    have hm1 := (frM_mM q2).trans hm
    have hw1 : ∀ x, x < n → σ1.2 13 0 x = lN (W x) := fun x hx => by rw [q2.2.2 x (by omega)]; exact hw x hx
    show ∃ σ', fX10_bestAgainst_b11_o (fX10_bestAgainst_b11 f) _ _ _ σ = some (_, σ') ∧ _
    unfold fX10_bestAgainst_b11_o fX10_bestAgainst_b48 fX10_bestAgainst_b64
    rw [hE.2.1, if_neg (pu_nle (by omega)), q1', Option.bind_some, nI_1]
    dsimp only
    by_cases q : c = 0 ∨ (bst (bestM n A (tw σc h) W) c).1 < bestM n A (tw σc h) W c
    · have e : bst (bestM n A (tw σc h) W) (c + 1) = (bestM n A (tw σc h) W c, c) := by rw [bst_0, if_pos q]
      have eb : bv (bestM n A (tw σc h) W) (c + 1) = lN (bestM n A (tw σc h) W c) := by
        unfold bv
        rw [if_neg (by omega), e]
      rw [if_neg (fun z => cmp.mp z q), pu_k, if_neg (fun z => cmp.mp z q), ← eb]
      exact ih (c + 1) f (ab_si σ1 0 0 25 (nI c)) (by omega) (by omega) hE1 ((mM_si (by decide)).trans hm1) hw1 (fun _ => by rw [pu_siE, e])
    · have e : bst (bestM n A (tw σc h) W) (c + 1) = bst (bestM n A (tw σc h) W) c := by rw [bst_0, if_neg q]
      have c0 : 0 < c := by omega
      have eb : bv (bestM n A (tw σc h) W) (c + 1) = bv (bestM n A (tw σc h) W) c := by
        unfold bv
        rw [if_neg (by omega), if_neg (by omega), e]
      rw [if_pos (cmp.mpr q), pu_k, if_pos (cmp.mpr q), ← eb]
      exact ih (c + 1) f (ab_si σ1 0 0 25 (σ1.1 0 0 25)) (by omega) (by omega) hE1 ((mM_si (by decide)).trans hm1) hw1 (fun _ => by rw [pu_siE, e, mJ_get q2.1 rfl]; exact hb c0)
theorem ba_ok {n A h : Nat} {W : Nat → Nat} {σc σ : ab_S} (hE : EnM n A σc σ) (n2 : 2 ≤ n) (n5 : n ≤ 5) (hh : h < 4) (hA : A ≤ 3) (hW : ∀ d, d < n → W d ≤ 12 ∧ σ.1 1 0 d = nI (W d)) : ∃ σ', fX10_bestAgainst (nI h) σ = some (lN (bst (bestM n A (tw σc h) W) n).1, σ') ∧ mM σ' = mM σ ∧ EnM n A σc σ' ∧ σ'.1 0 0 25 = nI (bst (bestM n A (tw σc h) W) n).2 := by
  obtain ⟨σ1, q1, q2, q3⟩ := be_L (σ0 := σ) hE.2.1 n5 hW n 0 ab_N σ (by omega) (by rw [pu_N]; omega) frM_rfl (fun x h => by omega)
  obtain ⟨σ2, z1, z2, z3, z4⟩ := ba_L (h := h) (W := W) (σc := σc) (σ0 := σ) n5 hh hA (fun d hd => (hW d hd).1) n 0 ab_N σ1 (by omega) (by rw [pu_N]; omega) (EnM_fr hE q2) (frM_mM q2) q3 (fun z => by omega)
  have q1' : fX10_begins1_b2 ab_N 0 σ = some σ1 := q1
  have z1' : fX10_bestAgainst_b11 ab_N (nI h) (-1) 0 σ1 = _ := z1
  unfold fX10_bestAgainst fX10_begins1
  rw [q1', Option.bind_some, z1']
  unfold bv
  rw [if_neg (by omega)]
  exact ⟨σ2, rfl, z2, z3, z4 (by omega)⟩
/-- the class's greatest -/
def frG (h : Nat) (σ0 σ : ab_S) : Prop := (∀ r k i, keepT r i = true → r ≠ 33 → σ.1 r k i = σ0.1 r k i) ∧ (∀ e, e ≠ h → σ.1 33 0 e = σ0.1 33 0 e) ∧ R_gv σ ∧ (∀ r, r ≠ 29 → r ≠ 31 → r ≠ 32 → σ.2 r = σ0.2 r) ∧ (∀ e, e ≠ h → σ.2 32 0 e = σ0.2 32 0 e)
theorem EnC_G {n A h : Nat} {T : Nat → Nat → Nat → Nat → Nat → Nat} {σ0 σ : ab_S} (h0 : EnC n A h T σ0) (hf : frG h σ0 σ) : EnC n A h T σ := by
  have g : ∀ r k i, keepT r i = true → r ≠ 33 → σ.1 r k i = σ0.1 r k i := hf.1
  refine ⟨by rw [g 1 0 3 rfl (by decide)]; exact h0.1, by rw [g 1 0 5 rfl (by decide)]; exact h0.2.1, fun k hk => ?_, hf.2.2.1, ?_⟩
  · rw [g 23 k 5 rfl (by decide), g 23 k 3 rfl (by decide)]
    exact h0.2.2.1 k hk
  · rw [← h0.2.2.2.2]
    unfold tw
    rw [g 23 h 3 rfl (by decide), g 23 h 5 rfl (by decide), g 23 h 6 rfl (by decide), show σ.1 24 h = σ0.1 24 h from funext fun i => g 24 h i rfl (by decide)]
theorem gw_L {n A h : Nat} {W : Nat → Nat} {T : Nat → Nat → Nat → Nat → Nat → Nat} {σ0 : ab_S} (hE : EnC n A h T σ0) (n2 : 2 ≤ n) (n5 : n ≤ 5) (hh : h < 4) (hA1 : 1 ≤ A) (hA : A ≤ 3) (hW : ∀ d, d < n → W d ≤ 12) (hT : ∀ a r c d x, T a r c d x ≤ 12) (hf : ∀ d, d < n → bestC n A T W d < 2 ^ 63) : ∀ (k c fuel : Nat) (σ : ab_S), c + k = n → k < fuel → frG h σ0 σ → (∀ x, x < n → σ.2 29 0 x = lN (W x)) → σ.2 32 0 h = bv (bestC n A T W) c → (0 < c → σ.1 33 0 h = nI (bst (bestC n A T W) c).2) →
    ∃ σ', fX1_greatestWorth_b60 fuel (nI h) (nI c) σ = some (bv (bestC n A T W) n, σ') ∧ frG h σ0 σ' ∧ σ'.2 32 0 h = bv (bestC n A T W) n ∧ (0 < n → σ'.1 33 0 h = nI (bst (bestC n A T W) n).2) := by
  intro k
  induction k with
  | zero =>
    intro c fuel σ h1 h2 hg hw h32 h33
    obtain ⟨f, rfl⟩ : ∃ f, fuel = f + 1 := ⟨fuel - 1, by omega⟩
    have hcn : c = n := by omega
    subst hcn
    refine ⟨σ, ?_, hg, h32, h33⟩
    show fX1_greatestWorth_b60_o _ _ _ _ = _
    unfold fX1_greatestWorth_b60_o
    rw [(EnC_G hE hg).1, if_pos (pu_le (by omega)), if_pos (inb_nI hh), cl_nI (by omega), h32]
  | succ k ih =>
    intro c fuel σ h1 h2 hg hw h32 h33
    obtain ⟨f, rfl⟩ : ∃ f, fuel = f + 1 := ⟨fuel - 1, by omega⟩
    have hEs := EnC_G hE hg
    obtain ⟨σ1, q1, q2⟩ := ho_ok (way := 3) n2 n5 hh hA1 hA (by omega) (by omega) hT 0 0 c W σ (by omega) hA1 hEs (by omega) (by omega) hw (fun x hx => by rw [Nat.mul_zero, Nat.pow_zero]; exact hW x hx)
    have q1' : fX1_hostActs 64 h 3 0 0 (nI c) σ = some (lN (bestC n A T W c), σ1) := q1
    have cmp := bv_cmp hf (show c < n by omega)
    have g1 : frG h σ0 σ1 := ⟨fun r k i hk hr => by rw [mI_get q2.1 hk]; exact hg.1 r k i hk hr, fun e he => by rw [mI_get q2.1 rfl]; exact hg.2.1 e he, q2.2.1, fun r hr hr' hr2 => by rw [q2.2.2.1 r hr hr']; exact hg.2.2.2.1 r hr hr' hr2, fun e he => by rw [q2.2.2.1 32 (by omega) (by omega)]; exact hg.2.2.2.2 e he⟩
    have hw1 : ∀ x, x < n → σ1.2 29 0 x = lN (W x) := fun x hx => by rw [q2.2.2.2.1 0 (Nat.le_refl _)]; exact hw x hx
    have h32' : σ1.2 32 0 h = bv (bestC n A T W) c := by rw [q2.2.2.1 32 (by omega) (by omega)]; exact h32
    show ∃ σ', fX1_greatestWorth_b60_o (fX1_greatestWorth_b60 f) _ _ σ = some (_, σ') ∧ _
    unfold fX1_greatestWorth_b60_o fX1_greatestWorth_b111
    rw [hEs.1, if_neg (pu_nle (by omega)), if_pos (inb_nI hh), cl_nI (by omega), q1', Option.bind_some, if_pos (inb_nI hh), if_pos (inb_nI hh)]
    dsimp only
    rw [h32', nI_1]
    by_cases q : c = 0 ∨ (bst (bestC n A T W) c).1 < bestC n A T W c
    · have e : bst (bestC n A T W) (c + 1) = (bestC n A T W c, c) := by rw [bst_0, if_pos q]
      have eb : bv (bestC n A T W) (c + 1) = lN (bestC n A T W c) := by
        unfold bv
        rw [if_neg (by omega), e]
      rw [if_neg (fun z => cmp.mp z q), pu_k, if_pos (inb_nI hh), pu_k]
      refine ih (c + 1) f (ab_si (ab_sl σ1 32 0 h (lN (bestC n A T W c))) 33 0 h (nI c)) (by omega) (by omega) ⟨fun r k i hk hr => by rw [pu_siR hr]; exact g1.1 r k i hk hr, fun e he => by rw [pu_siJ he]; exact g1.2.1 e he, g1.2.2.1, fun r hr hr' hr2 => by rw [pu_si2, pu_slR hr2]; exact g1.2.2.2.1 r hr hr' hr2, fun e he => by rw [pu_si2, pu_slJ he]; exact g1.2.2.2.2 e he⟩ (fun x hx => by rw [pu_si2, pu_slR (by omega)]; exact hw1 x hx) (by rw [pu_si2, pu_slE, eb]) (fun _ => by rw [pu_siE, e])
    · have e : bst (bestC n A T W) (c + 1) = bst (bestC n A T W) c := by rw [bst_0, if_neg q]
      have c0 : 0 < c := by omega
      have eb : bv (bestC n A T W) (c + 1) = bv (bestC n A T W) c := by
        unfold bv
        rw [if_neg (by omega), if_neg (by omega), e]
      rw [if_pos (cmp.mpr q)]
      exact ih (c + 1) f σ1 (by omega) (by omega) g1 hw1 (by rw [eb]; exact h32') (fun _ => by rw [e, mI_get q2.1 rfl]; exact h33 c0)
/-- what the cache says, and what is asked of the state -/
theorem gw_ok {i n A h : Nat} {W : Nat → Nat} {σ : ab_S} (hgv : R_gv σ) (hL : LwOK σ) (hn : σ.1 1 0 3 = nI n) (hAs : σ.1 1 0 5 = nI A) (n2 : 2 ≤ n) (n5 : n ≤ 5) (hh : h < 4) (hA1 : 1 ≤ A) (hA : A ≤ 3) (hWe : W = fun x => (σ.1 2 0 x).toNatClampNeg) (hW : ∀ d, d < n → W d ≤ 12 ∧ σ.1 2 0 d = nI (W d)) (hi : i ≤ 3072) (hbs : R_bs i n σ) : ∃ σ', fX1_greatestWorth (nI h) σ = some (lN (bst (bestC n A (tw σ h) W) n).1, σ') ∧ mC σ' = mC σ ∧ R_gv σ' ∧ R_bs i n σ' ∧ (∀ k, tw σ' k = tw σ k) ∧ σ'.1 33 0 h = nI (bst (bestC n A (tw σ h) W) n).2 := by
  have hT : ∀ a r c d x, tw σ h a r c d x ≤ 12 := fun a r c d x => twV_le _ _ _ _ _ _ _ _ _
  obtain ⟨g, g0, g1, g2, g3⟩ := id hbs
  obtain ⟨g', g4, g5, g6⟩ := g3 h hh
  unfold fX1_greatestWorth
  rw [pu_isHost_yes hh, Option.bind_some, if_neg pu_10, if_pos (inb_nI hh), if_pos (inb_nI hh), if_pos (inb_nI hh), cl_nI (by omega), g5, g2]
  by_cases hg : g' = g
  · obtain ⟨b1, b2⟩ := g6 hg
    rw [hAs, cl_nI (by omega), ← hWe, ← best_BV hA1] at b1 b2
    rw [if_pos (by rw [hg]), b1]
    exact ⟨σ, rfl, rfl, hgv, hbs, fun _ => rfl, b2⟩
  · rw [if_neg (pu_ne hg (by omega) (by omega)), pu_k, if_pos (inb_nI hh), pu_k]
    have hgv8 : R_gv (ab_sl (ab_si σ 34 0 h (nI g)) 32 0 h (-1)) := hgv
    obtain ⟨σ9, q1, q2, q3, q4⟩ := ls_ok (W := W) (σ := ab_sl (ab_si σ 34 0 h (nI g)) 32 0 h (-1)) hgv8 hn n5 hW
    have hf : ∀ d, d < n → bestC n A (tw σ h) W d < 2 ^ 63 := fun d hd => HV_b (by omega) n5 (by omega) (by omega) hA hd (fun d hd => (hW d hd).1)
    have hE9 : EnC n A h (tw σ h) σ9 := ⟨by rw [q2]; exact hn, by rw [q2]; exact hAs, by unfold LwOK; rw [q2]; exact hL, by unfold R_gv tw; rw [q2]; exact hgv, by unfold tw; rw [q2]; rfl⟩
    have hgv9 := hE9.2.2.2.1
    obtain ⟨σ1, z1, z2, z3, z4⟩ := gw_L (W := W) hE9 n2 n5 hh hA1 hA (fun d hd => (hW d hd).1) hT hf n 0 ab_N σ9 (by omega) (by rw [pu_N]; omega) ⟨fun _ _ _ _ _ => rfl, fun _ _ => rfl, hgv9, fun _ _ _ _ => rfl, fun _ _ => rfl⟩ q4 (by rw [q3 32 (by omega)]; exact pu_slE) (fun z => by omega)
    have z1' : fX1_greatestWorth_b60 ab_N (nI h) 0 σ9 = _ := z1
    rw [q1, Option.bind_some, z1']
    have eb : bv (bestC n A (tw σ h) W) n = lN (bst (bestC n A (tw σ h) W) n).1 := by unfold bv; rw [if_neg (by omega)]
    have k1 : ∀ r k i, keepT r i = true → r ≠ 33 → r ≠ 34 → σ1.1 r k i = σ.1 r k i := fun r k i hk hr hr4 => by
      rw [z2.1 r k i hk hr, q2]
      exact congrFun (congrFun (pu_siR hr4) k) i
    have tws : ∀ k, tw σ1 k = tw σ k := fun k => by
      unfold tw
      rw [k1 23 k 3 rfl (by decide) (by decide), k1 23 k 5 rfl (by decide) (by decide), k1 23 k 6 rfl (by decide) (by decide), show σ1.1 24 k = σ.1 24 k from funext fun i => k1 24 k i rfl (by decide) (by decide)]
    refine ⟨σ1, by rw [eb], ?_, z2.2.2.1, ?_, tws, z4 (by omega)⟩
    · refine Prod.ext ?_ ?_
      · funext r k i
        show (if keepC r i = true then σ1.1 r k i else 0) = (if keepC r i = true then σ.1 r k i else 0)
        by_cases hb : keepC r i = true
        · rw [if_pos hb, if_pos hb]
          refine k1 r k i (keepTB (keepBC hb)) (fun e => ?_) (fun e => ?_)
          · subst e; exact absurd hb (show ¬ keepC 33 i = true by unfold keepC; simp)
          · subst e; exact absurd hb (show ¬ keepC 34 i = true by unfold keepC; simp)
        · rw [if_neg hb, if_neg hb]
      · funext r k i
        show (if r = 43 then σ1.2 r k i else 0) = (if r = 43 then σ.2 r k i else 0)
        by_cases hb : r = 43
        · subst hb
          rw [if_pos rfl, if_pos rfl, z2.2.2.2.1 43 (by omega) (by omega) (by omega), q3 43 (by omega)]
          exact congrFun (congrFun (pu_slR (by omega)) k) i
        · rw [if_neg hb, if_neg hb]
    · refine ⟨g, g0, g1, by rw [k1 1 0 6 rfl (by decide) (by decide)]; exact g2, fun h' hh' => ?_⟩
      have e34 : ∀ e, σ1.1 34 0 e = (ab_si σ 34 0 h (nI g)).1 34 0 e := fun e => by rw [z2.1 34 0 e rfl (by decide), q2]; rfl
      by_cases hhe : h' = h
      · subst hhe
        refine ⟨g, Nat.le_refl _, by rw [e34, pu_siE], fun _ => ?_⟩
        unfold BestV
        rw [k1 1 0 5 rfl (by decide) (by decide), hAs, cl_nI (by omega), tws, show (fun x => (σ1.1 2 0 x).toNatClampNeg) = W by rw [hWe]; funext x; rw [k1 2 0 x rfl (by decide) (by decide)], ← best_BV hA1]
        exact ⟨by rw [z3, eb], z4 (by omega)⟩
      · obtain ⟨g7, g8, g9, g10⟩ := g3 h' hh'
        refine ⟨g7, g8, by rw [e34, pu_siJ hhe]; exact g9, fun e => ?_⟩
        have := g10 e
        unfold BestV at this ⊢
        rw [k1 1 0 5 rfl (by decide) (by decide), tws, show (fun x => (σ1.1 2 0 x).toNatClampNeg) = (fun x => (σ.1 2 0 x).toNatClampNeg) from funext fun x => by rw [k1 2 0 x rfl (by decide) (by decide)], z2.2.2.2.2 h' hhe, z2.2.1 h' hhe, q3 32 (by omega), q2, pu_slJ hhe]
        exact this
