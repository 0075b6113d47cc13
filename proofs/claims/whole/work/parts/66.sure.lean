/-! PURE, 35: theBest, hardest, sure -/
theorem bits15 : ∀ g, g ≤ 15 → 1 ≤ g → ∃ e, e < 4 ∧ g.testBit e = true := by decide +kernel
section
variable {i : Nat} {σc σm : ab_S}
theorem Rel_C {σc' σm' : ab_S} (h : Rel i σc σm) (e1 : mC σc' = mC σc) (e2 : mM σm' = mM σm) (hg : R_gv σc') (hb : ∀ n, σc.1 1 0 3 = nI n → n ≤ 5 → R_bs i n σc → R_bs i n σc') : Rel (i + 6) σc' σm' := by
  obtain ⟨n, b, h1, h2, h3, h4, h5, h6, h7, h8, h9, h10, h11, h12⟩ := h
  exact ⟨n, b, h1, h2, R_st_fr h3 e1 e2, R_ev_fr h4 e1 e2, R_im_mono (R_im_fr h5 e1 e2), R_ch_fr h6 e1 e2, R_tp_fr h7 e1 e2, R_lw_fr h8 e1 e2, hg, R_bs_mono (hb n h3.1 h2 h10), R_bd_fr h11 e1 e2, R_sh_fr h12 e1 e2⟩
theorem uniq {n n' : Nat} {x : Int32} (h : x = nI n) (h' : x = nI n') (a : n ≤ 5) (b : n' ≤ 5) : n' = n := by
  rw [h] at h'
  exact ((nI_eq (by omega) (by omega)).mp h').symm
theorem best_b {n A h N : Nat} {W : Nat → Nat} {σ : ab_S} (n5 : n ≤ 5) (hN : n - 1 ≤ N) (N4 : N ≤ 4) (hA : A ≤ 3) (hW : ∀ d, d < n → W d ≤ 12) : (bst (fun d => HV N n 3 (tw σ h) A 0 0 d W) n).1 < 2 ^ 62 := by
  have := bst_le (f := fun d => HV N n 3 (tw σ h) A 0 0 d W) (B := 2 ^ 62 - 1) n (fun d hd => by
    have h1 := HV_le (N := N) (n := n) (T := tw σ h) (way := 3) (by omega) n5 hN N4 (fun a r c d x => twV_le _ _ _ _ _ _ _ _ _) (k := A) (a := 0) (s := 0) (c := d) (w := W) (M := 12) hd hW
    have h2 : 6 ^ A * (12 * 12 ^ (4 * A)) ≤ 6 ^ 3 * (12 * 12 ^ 12) := Nat.mul_le_mul (Nat.pow_le_pow_right (by decide) hA) (Nat.mul_le_mul_left _ (Nat.pow_le_pow_right (by decide) (by omega)))
    show HV N n 3 (tw σ h) A 0 0 d W ≤ 2 ^ 62 - 1
    omega)
  omega
theorem pp_theBest (h : Rel i σc σm) (hi : i ≤ 3072) (a0 : Int32) : ∃ (r : Int64) (σc1 : ab_S) (σm1 : ab_S), fX9_theBest a0 σc = some (r, σc1) ∧ fX10_theBest a0 σm = some (r, σm1) ∧ Rel (i + 6) σc1 σm1 := by
  have hh0 := h
  have h0 := Rel_mono h
  obtain ⟨n, b, n2, n5, hst, hev, him, hch, htp, hlw, hgv, hbs, hbd, hsh⟩ := h
  obtain ⟨W, hW, hWe⟩ := st_W hst
  obtain ⟨A, hA1, hA, eA, eA'⟩ := acts_x hst
  obtain ⟨⟨k, hk, k1⟩, k2⟩ := hst.2.2.2.2.1
  unfold fX9_theBest fX10_theBest
  rcases pu_rng a0 0 2 with hv | ⟨p, p0, p2, rfl⟩
  · rw [show fX10_within a0.toInt64 0 2 = some 0 from pu_wi_no (lo := 0) (hi := 2) hv]
    refine ⟨_, σc, σm, ?_, rfl, h0⟩
    rw [pu_isPart_no (by
      have := pu_rgI hv
      rcases hv with q | q
      · exact Or.inl q
      · refine Or.inr ?_
        rw [Int32.lt_iff_toInt_lt, nI_toInt (by omega)] at q ⊢
        omega), Option.bind_some, if_pos rfl, if_neg (fun e => by
      rw [e] at hv
      rcases hv with q | q
      · exact absurd q (by decide)
      · exact absurd q (by decide))]
  have cls : ((fX9_isPart (nI p)).bind fun q1 => (if q1 = 0 then (if nI p = 2 then fX9_theBest_b16 (nI p) σc else some ((-9223372036854775808), σc)) else fX9_theBest_b16 (nI p) σc)) = fX9_theBest_b16 (nI p) σc := by
    by_cases h2 : p = 2
    · subst h2; rfl
    · rw [pu_isPart_yes (by omega)]; rfl
  rw [cls, show fX10_within (nI p).toInt64 0 2 = some 1 from pu_wi_yes (lo := 0) (hi := 2) p0 p2, Option.bind_some, if_neg pu_10]
  unfold fX9_theBest_b16 fX9_theBest_b80 fX10_theBest_b60
  have sb := sm_le (f := W) (B := 12) n (fun d hd => (hW d (by omega)).1)
  have hW' : ∀ d, d < n → W d ≤ 12 := fun d hd => (hW d (by omega)).1
  rw [tg_c hst.1 n5 (fun d hd => (hW d (by omega)).2.1), al_m hst.2.1 n5 (fun d hd => (hW d (by omega)).2.2), Option.bind_some, Option.bind_some]
  by_cases hz : sm W n = 0
  · rw [hz]
    exact ⟨-2, σc, σm, rfl, rfl, h0⟩
  rw [if_neg (pl_ne (b := 0) hz), if_neg (pl_ne (b := 0) hz), if_pos (show ab_inb 5 7 = true from rfl), show ((5 : Int32)).toNatClampNeg = 5 from rfl, k2, k1]
  obtain ⟨σ1, q1, q2, q3, q4, q5, q6⟩ := gw_ok (h := k) hgv (lwok hlw) hst.1 eA n2 n5 hk hA1 hA hWe (fun d hd => ⟨hW' d hd, (hW d (by omega)).2.1⟩) hi hbs
  obtain ⟨σ2, z1, z2, z3, z4⟩ := ba_ok (h := k) (W := W) (σc := σc) (σ := σm) ⟨hlw, hst.2.1, eA'⟩ n2 n5 hk hA (fun d hd => ⟨hW' d hd, (hW d (by omega)).2.2⟩)
  have hR : Rel (i + 6) σ1 σ2 := Rel_C hh0 q2 z2 q3 (fun n' e e5 _ => by rw [uniq hst.1 e n5 e5]; exact q4)
  rw [q1, z1, Option.bind_some, Option.bind_some]
  dsimp only
  by_cases h2 : p = 2
  · rw [if_pos (show nI p = 2 by rw [h2]; rfl), if_pos (show nI p = 2 by rw [h2]; rfl), z4, best_sc n5]
    unfold fX1_firstDoor fX1_firstDoor_b17
    rw [mC_get q2 (r := 1) (i := 4) rfl, k1, pu_isHost_yes hk, Option.bind_some, if_neg pu_10, if_pos (inb_nI hk), cl_nI (by omega), q6]
    exact ⟨_, σ1, σ2, rfl, rfl, hR⟩
  · have b1 : (bst (bestC n A (tw σc k) W) n).1 < 2 ^ 62 := best_b n5 (Nat.le_refl _) (by omega) hA hW'
    have b2 : (bst (bestM n A (tw σc k) W) n).1 < 2 ^ 62 := best_b n5 (by omega) (by omega) hA hW'
    have b3 := wh_b (N := n - 1) (A := A) n5 (by omega) hA hW'
    have b4 := wh_b (N := 4) (A := A) n5 (by omega) hA hW'
    rw [best_sc n5] at b2 ⊢
    dsimp only at b2 ⊢
    have hK : 0 < 12 ^ ((5 - n) * A) := Nat.pow_pos (by decide)
    have hp : 0 < sm W n * 12 ^ ((n - 1) * A) := Nat.mul_pos (by omega) (Nat.pow_pos (by decide))
    rw [if_neg (pl_ne (b := 2) h2), if_neg (pl_ne (b := 2) h2), ww_C (W := W) (by rw [mC_get q2 rfl]; exact hst.1) (by rw [mC_get q2 rfl]; exact eA) (by omega) n5 hA (fun d hd => ⟨hW' d hd, by rw [mC_get q2 rfl]; exact (hW d (by omega)).2.1⟩), wo_M (W := W) z3.2.1 z3.2.2 n5 hA (fun d hd => ⟨hW' d hd, by rw [mM_get z2 rfl]; exact (hW d (by omega)).2.2⟩), Option.bind_some, Option.bind_some, pu_lowest (by omega) (by omega) b3 hp, pu_partOf (by omega) (by omega) b4 (Nat.mul_pos (by omega) (Nat.pow_pos (by decide))), wh_sc (by omega) n5, frac_scale hK]
    exact ⟨_, σ1, σ2, rfl, rfl, hR⟩
end
/-- the host against whom it is least -/
def hl_ (q : Nat → Nat) (g : Nat) : Nat → Option Nat
  | 0 => none
  | j + 1 => if g.testBit j = true then (match hl_ q g j with
    | none => some j
    | some k => if q k ≤ q j then some k else some j) else hl_ q g j
theorem hl_none {q : Nat → Nat} {g : Nat} : ∀ j, hl_ q g j = none → ∀ e, e < j → g.testBit e = false
  | 0, _, e, he => by omega
  | j + 1, h, e, he => by
    unfold hl_ at h
    cases hb : g.testBit j with
    | true =>
      rw [hb, if_pos rfl] at h
      cases hh : hl_ q g j with
      | none => rw [hh] at h; cases h
      | some k => rw [hh] at h; dsimp only at h; split at h <;> cases h
    | false =>
      rw [hb, if_neg (by decide)] at h
      by_cases e1 : e = j
      · rw [e1]; exact hb
      · exact hl_none j h e (by omega)
theorem hl_lt {q : Nat → Nat} {g k : Nat} : ∀ j, hl_ q g j = some k → k < j
  | 0, h => by cases h
  | j + 1, h => by
    unfold hl_ at h
    cases hb : g.testBit j with
    | true =>
      rw [hb, if_pos rfl] at h
      cases hh : hl_ q g j with
      | none =>
        rw [hh] at h
        have := Option.some.inj h
        omega
      | some k' =>
        rw [hh] at h
        have ih := hl_lt j hh
        dsimp only at h
        split at h
        · have := Option.some.inj h; omega
        · have := Option.some.inj h; omega
    | false =>
      rw [hb, if_neg (by decide)] at h
      have := hl_lt j h
      omega
def eC_ (o : Option Nat) : Int32 := match o with
  | none => -1
  | some k => nI k
section
variable {i n A g : Nat} {W : Nat → Nat} {σ0 : ab_S}
/-- what holds of the class's state while hosts are compared -/
def SC (i n : Nat) (σ0 σ : ab_S) : Prop := mC σ = mC σ0 ∧ R_gv σ ∧ R_bs i n σ ∧ ∀ k, tw σ k = tw σ0 k
theorem gw_SC {h : Nat} {σ : ab_S} (hs : SC i n σ0 σ) (hL : LwOK σ0) (hn : σ0.1 1 0 3 = nI n) (hAs : σ0.1 1 0 5 = nI A) (n2 : 2 ≤ n) (n5 : n ≤ 5) (hh : h < 4) (hA1 : 1 ≤ A) (hA : A ≤ 3) (hWe : W = fun x => (σ0.1 2 0 x).toNatClampNeg) (hW : ∀ d, d < n → W d ≤ 12 ∧ σ0.1 2 0 d = nI (W d)) (hi : i ≤ 3072) : ∃ σ', fX1_greatestWorth (nI h) σ = some (lN (bst (bestC n A (tw σ0 h) W) n).1, σ') ∧ SC i n σ0 σ' := by
  have g2 : ∀ x, σ.1 2 0 x = σ0.1 2 0 x := fun x => mC_get hs.1 rfl
  obtain ⟨σ1, q1, q2, q3, q4, q5, -⟩ := gw_ok (i := i) (n := n) (A := A) (h := h) (W := W) (σ := σ) hs.2.1 (fun k hk => by rw [mC_get hs.1 (r := 23) (i := 5) rfl, mC_get hs.1 (r := 23) (i := 3) rfl]; exact hL k hk) (by rw [mC_get hs.1 rfl]; exact hn) (by rw [mC_get hs.1 rfl]; exact hAs) n2 n5 hh hA1 hA (by rw [hWe]; funext x; rw [g2]) (fun d hd => by rw [g2]; exact hW d hd) hi hs.2.2.1
  rw [hs.2.2.2] at q1
  exact ⟨σ1, q1, q2.trans hs.1, q3, q4, fun k => (q5 k).trans (hs.2.2.2 k)⟩
theorem hd_C {p : Nat} (hL : LwOK σ0) (hn : σ0.1 1 0 3 = nI n) (hAs : σ0.1 1 0 5 = nI A) (n2 : 2 ≤ n) (n5 : n ≤ 5) (hA1 : 1 ≤ A) (hA : A ≤ 3) (hWe : W = fun x => (σ0.1 2 0 x).toNatClampNeg) (hW : ∀ d, d < n → W d ≤ 12 ∧ σ0.1 2 0 d = nI (W d)) (hi : i ≤ 3072) (hg : g < 32) (hq : ∀ h, (bst (bestC n A (tw σ0 h) W) n).1 < 2 ^ 63) {kk : Nat} (hkk : hl_ (fun h => (bst (bestC n A (tw σ0 h) W) n).1) g 4 = some kk) : ∀ (k j fuel : Nat) (σ : ab_S), j + k = 4 → k < fuel → SC i n σ0 σ → ∃ σ', fX9_hardest_b42 fuel (nI g) (nI p) (eC_ (hl_ (fun h => (bst (bestC n A (tw σ0 h) W) n).1) g j)) (nI j) σ = (if nI p = 2 then some ((nI kk).toInt64, σ') else (fX7_wholeWorth σ').bind fun q4 => (fX9_lowest (lN (bst (bestC n A (tw σ0 kk) W) n).1) q4 (nI p)).bind fun q5 => some (q5, σ')) ∧ SC i n σ0 σ' := by
  have kl := hl_lt 4 hkk
  intro k
  induction k with
  | zero =>
    intro j fuel σ h1 h2 hs
    obtain ⟨f, rfl⟩ : ∃ f, fuel = f + 1 := ⟨fuel - 1, by omega⟩
    have hj : j = 4 := by omega
    subst hj
    rw [hkk]
    show ∃ σ', fX9_hardest_b42_o (fX9_hardest_b42 f) _ _ (nI kk) _ σ = _ ∧ _
    unfold fX9_hardest_b42_o fX9_hardest_b124
    rw [if_pos (show (4 : Int32) ≤ nI 4 from pu_le (a := 4) (by omega))]
    by_cases hp : nI p = 2
    · refine ⟨σ, ?_, hs⟩
      rw [if_pos hp, if_pos hp]
    · obtain ⟨σ1, q1, q2⟩ := gw_SC (h := kk) hs hL hn hAs n2 n5 kl hA1 hA hWe hW hi
      refine ⟨σ1, ?_, q2⟩
      rw [if_neg hp, if_neg hp, q1]
      rfl
  | succ k ih =>
    intro j fuel σ h1 h2 hs
    obtain ⟨f, rfl⟩ : ∃ f, fuel = f + 1 := ⟨fuel - 1, by omega⟩
    have st : hl_ (fun h => (bst (bestC n A (tw σ0 h) W) n).1) g (j + 1) = if g.testBit j = true then (match hl_ (fun h => (bst (bestC n A (tw σ0 h) W) n).1) g j with
      | none => some j
      | some k => if (bst (bestC n A (tw σ0 k) W) n).1 ≤ (bst (bestC n A (tw σ0 j) W) n).1 then some k else some j) else hl_ (fun h => (bst (bestC n A (tw σ0 h) W) n).1) g j := rfl
    have nx := fun σ1 => ih (j + 1) f σ1 (by omega) (by omega)
    show ∃ σ', fX9_hardest_b42_o (fX9_hardest_b42 f) _ _ _ _ σ = _ ∧ _
    unfold fX9_hardest_b42_o fX9_hardest_b89 fX9_hardest_b86 fX9_hardest_b89
    rw [if_neg (pr_nle (b := 4) (by omega)), pu_isInC g hg j (by omega), Option.bind_some, nI_1]
    cases hb : g.testBit j with
    | false =>
      simp only [Bool.false_eq_true, ↓reduceIte]
      rw [hb, if_neg (show ¬ (false = true) by decide)] at st
      rw [st] at nx
      exact nx σ hs
    | true =>
      simp only [↓reduceIte, pu_10]
      rw [hb, if_pos rfl] at st
      cases hh : hl_ (fun h => (bst (bestC n A (tw σ0 h) W) n).1) g j with
      | none =>
        rw [hh] at st
        rw [st] at nx
        show ∃ σ', (if (-1 : Int32) = -1 then _ else _) = _ ∧ _
        rw [if_pos rfl]
        exact nx σ hs
      | some k' =>
        rw [hh] at st
        dsimp only at st
        have k4 := hl_lt j hh
        show ∃ σ', (if nI k' = -1 then _ else _) = _ ∧ _
        obtain ⟨σ1, q1, q2⟩ := gw_SC (h := j) hs hL hn hAs n2 n5 (by omega) hA1 hA hWe hW hi
        obtain ⟨σ2, z1, z2⟩ := gw_SC (h := k') q2 hL hn hAs n2 n5 (by omega) hA1 hA hWe hW hi
        rw [if_neg (pu_n1 (by omega)), q1, Option.bind_some]
        show ∃ σ', ((fX1_greatestWorth (nI k') σ1).bind _) = _ ∧ _
        rw [z1, Option.bind_some]
        dsimp only
        have cm : (0 ≤ lg_cmp (lN (bst (bestC n A (tw σ0 j) W) n).1) (lN (bst (bestC n A (tw σ0 k') W) n).1)) ↔ (bst (bestC n A (tw σ0 k') W) n).1 ≤ (bst (bestC n A (tw σ0 j) W) n).1 := by
          rw [lg_cmp_ge, pk_lLE (hq k') (hq j)]
        by_cases q : (bst (bestC n A (tw σ0 k') W) n).1 ≤ (bst (bestC n A (tw σ0 j) W) n).1
        · rw [if_pos (cm.mpr q)]
          rw [if_pos q] at st
          rw [st] at nx
          exact nx σ2 z2
        · rw [if_neg (fun z => q (cm.mp z))]
          rw [if_neg q] at st
          rw [st] at nx
          exact nx σ2 z2
end
