/-! PURE, 36: hardest and sure -/
def vM_ (K : Nat) (q : Nat → Nat) (o : Option Nat) (j : Nat) : Int64 := match o with
  | none => if j = 0 then -1 else lN (2 ^ 63 - 1)
  | some k => lN (K * q k)
def iM_ (o : Option Nat) : Int32 := match o with
  | none => 0
  | some k => nI k
theorem hst_M {kk : Int32 → Int32 → Int64 → Int32 → Int32 → ab_S → Option (Int64 × ab_S)} {v1 v2 v5 v6 : Int32} {v3 t0 : Int64} {σ : ab_S} : fX10_hardest_b71 kk v1 v2 v3 v5 v6 t0 σ = if lg_cmp v3 0 < 0 ∨ ¬ 0 ≤ lg_cmp t0 v3 then kk v1 v2 t0 v6 (v6 + 1) σ else kk v1 v2 v3 v5 (v6 + 1) σ := by
  unfold fX10_hardest_b71 fX10_hardest_b86 fX10_hardest_b93 fX10_hardest_b108 fX10_hardest_b114
  by_cases h1 : lg_cmp v3 0 < 0
  · rw [if_pos h1, if_pos h1, if_pos (Or.inl h1)]
  · rw [if_neg h1, if_neg h1, if_neg h1]
    by_cases h2 : 0 ≤ lg_cmp t0 v3
    · rw [if_pos h2, if_pos h2, if_neg (fun z => z.elim h1 (fun z => z h2))]
    · rw [if_neg h2, if_neg h2, if_pos (Or.inr h2)]
section
variable {i n A g : Nat} {W : Nat → Nat} {σc σ0 : ab_S}
theorem hd_M {p K : Nat} {q : Nat → Nat} (hE0 : EnM n A σc σ0) (n2 : 2 ≤ n) (n5 : n ≤ 5) (hA : A ≤ 3) (hW : ∀ d, d < n → W d ≤ 12 ∧ σ0.1 1 0 d = nI (W d)) (hg : g < 32) (hq : ∀ h, K * q h < 2 ^ 62) (hK : 0 < K) (hqe : ∀ h, (bst (bestM n A (tw σc h) W) n).1 = K * q h) {kk : Nat} (hkk : hl_ q g 4 = some kk) : ∀ (k j fuel : Nat) (σ : ab_S), j + k = 4 → k < fuel → EnM n A σc σ → mM σ = mM σ0 → ∃ σ', fX10_hardest_b44 fuel (nI g) (nI p) (vM_ K q (hl_ q g j) j) (iM_ (hl_ q g j)) (nI j) σ = (if nI p = 2 then some ((nI kk).toInt64, σ') else (fX10_wholeOf σ').bind fun q3 => (fX10_partOf (lN (K * q kk)) q3 (nI p)).bind fun q4 => some (q4, σ')) ∧ EnM n A σc σ' ∧ mM σ' = mM σ0 := by
  intro k
  induction k with
  | zero =>
    intro j fuel σ h1 h2 hE hm
    obtain ⟨f, rfl⟩ : ∃ f, fuel = f + 1 := ⟨fuel - 1, by omega⟩
    have hj : j = 4 := by omega
    subst hj
    rw [hkk]
    refine ⟨σ, ?_, hE, hm⟩
    show fX10_hardest_b44_o _ _ _ _ _ _ _ = _
    unfold fX10_hardest_b44_o fX10_hardest_b141
    rw [if_pos (show (4 : Int32) ≤ nI 4 from pu_le (a := 4) (by omega))]
    rfl
  | succ k ih =>
    intro j fuel σ h1 h2 hE hm
    obtain ⟨f, rfl⟩ : ∃ f, fuel = f + 1 := ⟨fuel - 1, by omega⟩
    have st : hl_ q g (j + 1) = if g.testBit j = true then (match hl_ q g j with
      | none => some j
      | some k => if q k ≤ q j then some k else some j) else hl_ q g j := rfl
    have nx := fun σ1 => ih (j + 1) f σ1 (by omega) (by omega)
    have mx63 : (9223372036854775807 : Int64) = lN (2 ^ 63 - 1) := rfl
    show ∃ σ', fX10_hardest_b44_o (fX10_hardest_b44 f) _ _ _ _ _ σ = _ ∧ _
    unfold fX10_hardest_b44_o
    rw [if_neg (pr_nle (b := 4) (by omega)), pu_isInM g hg j (by omega), Option.bind_some]
    cases hb : g.testBit j with
    | false =>
      simp only [Bool.false_eq_true, ↓reduceIte]
      rw [hb, if_neg (show ¬ (false = true) by decide)] at st
      rw [st] at nx
      rw [hst_M, mx63, nI_1]
      cases hh : hl_ q g j with
      | none =>
        rw [hh] at nx
        have e1 : vM_ K q none (j + 1) = lN (2 ^ 63 - 1) := by
          unfold vM_
          exact if_neg (by omega)
        rw [e1] at nx
        by_cases j0 : j = 0
        · have e0 : vM_ K q none j = -1 := if_pos j0
          rw [e0, if_pos (Or.inl (by rw [lg_cmp_lt]; decide)), show nI j = iM_ none by rw [j0]; rfl]
          exact nx σ hE hm
        · have e0 : vM_ K q none j = lN (2 ^ 63 - 1) := if_neg j0
          rw [e0, if_neg (fun z => z.elim (fun z => by rw [lg_cmp_lt, show (0 : Int64) = lN 0 from rfl, pk_lLT (by omega) (by omega)] at z; omega) (fun z => z (by rw [lg_cmp_ge, pk_lLE (by omega) (by omega)]; exact Nat.le_refl _)))]
          exact nx σ hE hm
      | some k' =>
        rw [hh] at nx
        have b := hq k'
        show ∃ σ', (if lg_cmp (lN (K * q k')) 0 < 0 ∨ ¬ 0 ≤ lg_cmp (lN (2 ^ 63 - 1)) (lN (K * q k')) then _ else _) = _ ∧ _
        rw [if_neg (fun z => z.elim (fun z => by rw [lg_cmp_lt, show (0 : Int64) = lN 0 from rfl, pk_lLT (by omega) (by omega)] at z; omega) (fun z => z (by rw [lg_cmp_ge, pk_lLE (by omega) (by omega)]; omega)))]
        exact nx σ hE hm
    | true =>
      simp only [↓reduceIte, pu_10]
      rw [hb, if_pos rfl] at st
      obtain ⟨σ1, q1, q2, q3, -⟩ := ba_ok (h := j) (W := W) hE n2 n5 (by omega) hA (fun d hd => ⟨(hW d hd).1, by rw [mM_get hm rfl]; exact (hW d hd).2⟩)
      rw [hqe] at q1
      rw [q1, Option.bind_some, hst_M, nI_1]
      dsimp only
      have bj := hq j
      have hm1 := q2.trans hm
      cases hh : hl_ q g j with
      | none =>
        rw [hh] at st
        rw [st] at nx
        have take : lg_cmp (vM_ K q none j) 0 < 0 ∨ ¬ 0 ≤ lg_cmp (lN (K * q j)) (vM_ K q none j) := by
          by_cases j0 : j = 0
          · have e0 : vM_ K q none j = -1 := if_pos j0
            rw [e0]
            exact Or.inl (by rw [lg_cmp_lt]; decide)
          · have e0 : vM_ K q none j = lN (2 ^ 63 - 1) := if_neg j0
            rw [e0]
            exact Or.inr (fun z => by rw [lg_cmp_ge, pk_lLE (by omega) (by omega)] at z; omega)
        rw [if_pos take]
        exact nx σ1 q3 hm1
      | some k' =>
        rw [hh] at st
        dsimp only at st
        have b := hq k'
        show ∃ σ', (if lg_cmp (lN (K * q k')) 0 < 0 ∨ ¬ 0 ≤ lg_cmp (lN (K * q j)) (lN (K * q k')) then _ else _) = _ ∧ _
        have nn : ¬ lg_cmp (lN (K * q k')) 0 < 0 := fun z => by rw [lg_cmp_lt, show (0 : Int64) = lN 0 from rfl, pk_lLT (by omega) (by omega)] at z; omega
        have cm : 0 ≤ lg_cmp (lN (K * q j)) (lN (K * q k')) ↔ q k' ≤ q j := by
          rw [lg_cmp_ge, pk_lLE (by omega) (by omega)]
          exact Nat.mul_le_mul_left_iff hK
        by_cases qq : q k' ≤ q j
        · rw [if_neg (fun z => z.elim nn (fun z => z (cm.mpr qq)))]
          rw [if_pos qq] at st
          rw [st] at nx
          exact nx σ1 q3 hm1
        · rw [if_pos (Or.inr (fun z => qq (cm.mp z)))]
          rw [if_neg qq] at st
          rw [st] at nx
          exact nx σ1 q3 hm1
end
theorem vM_0 {K : Nat} {q : Nat → Nat} : vM_ K q none 0 = -1 := by
  unfold vM_
  exact if_pos rfl
section
variable {i : Nat} {σc σm : ab_S}
theorem pp_hardest (h : Rel i σc σm) (hi : i ≤ 3072) (a0 : Int32) (a1 : Int32) : ∃ (r : Int64) (σc1 : ab_S) (σm1 : ab_S), fX9_hardest a0 a1 σc = some (r, σc1) ∧ fX10_hardest a0 a1 σm = some (r, σm1) ∧ Rel (i + 6) σc1 σm1 := by
  have hh0 := h
  have h0 := Rel_mono h
  obtain ⟨n, b, n2, n5, hst, hev, him, hch, htp, hlw, hgv, hbs, hbd, hsh⟩ := h
  obtain ⟨W, hW, hWe⟩ := st_W hst
  obtain ⟨A, hA1, hA, eA, eA'⟩ := acts_x hst
  unfold fX9_hardest fX10_hardest fX9_hardest_b19 fX10_hardest_b19
  rcases pu_rng a0 1 15 with hv | ⟨g, g0, g1, rfl⟩
  · rw [pu_areHostsC_no hv, pu_areHostsM_no hv]
    exact ⟨_, σc, σm, rfl, rfl, h0⟩
  rw [pu_areHostsC_yes g0 g1, pu_areHostsM_yes g0 g1, Option.bind_some, Option.bind_some, if_neg pu_10, if_neg pu_10]
  rcases pu_rng a1 0 2 with hv | ⟨p, p0, p2, rfl⟩
  · rw [show fX10_within a1.toInt64 0 2 = some 0 from pu_wi_no (lo := 0) (hi := 2) hv]
    refine ⟨_, σc, σm, ?_, rfl, h0⟩
    rw [pu_isPart_no (by
      rcases hv with q | q
      · exact Or.inl q
      · refine Or.inr ?_
        rw [Int32.lt_iff_toInt_lt, nI_toInt (by omega)] at q ⊢
        omega), Option.bind_some, if_pos rfl, if_neg (fun e => by
      rw [e] at hv
      rcases hv with q | q
      · exact absurd q (by decide)
      · exact absurd q (by decide))]
  have cls : ((fX9_isPart (nI p)).bind fun q3 => (if q3 = 0 then (if nI p = 2 then fX9_hardest_b23 (nI g) (nI p) σc else some ((-9223372036854775808), σc)) else fX9_hardest_b23 (nI g) (nI p) σc)) = fX9_hardest_b23 (nI g) (nI p) σc := by
    by_cases h2 : p = 2
    · subst h2
      rw [show fX9_isPart (nI 2) = some 0 from rfl, Option.bind_some, if_pos (show (0 : Int32) = 0 from rfl), if_pos (show nI 2 = 2 from rfl)]
    · rw [pu_isPart_yes (by omega), Option.bind_some, if_neg pu_10]
  rw [cls, show fX10_within (nI p).toInt64 0 2 = some 1 from pu_wi_yes (lo := 0) (hi := 2) p0 p2, Option.bind_some, if_neg pu_10]
  unfold fX9_hardest_b23
  have sb := sm_le (f := W) (B := 12) n (fun d hd => (hW d (by omega)).1)
  have hW' : ∀ d, d < n → W d ≤ 12 := fun d hd => (hW d (by omega)).1
  rw [tg_c hst.1 n5 (fun d hd => (hW d (by omega)).2.1), al_m hst.2.1 n5 (fun d hd => (hW d (by omega)).2.2), Option.bind_some, Option.bind_some]
  by_cases hz : sm W n = 0
  · rw [hz]
    exact ⟨-2, σc, σm, rfl, rfl, h0⟩
  rw [if_neg (pl_ne (b := 0) hz), if_neg (pl_ne (b := 0) hz)]
  have hqC : ∀ h, (bst (bestC n A (tw σc h) W) n).1 < 2 ^ 62 := fun h => best_b n5 (Nat.le_refl _) (by omega) hA hW'
  have hqM : ∀ h, (bst (bestM n A (tw σc h) W) n).1 < 2 ^ 62 := fun h => best_b n5 (by omega) (by omega) hA hW'
  have hqe : ∀ h, (bst (bestM n A (tw σc h) W) n).1 = 12 ^ ((5 - n) * A) * (bst (bestC n A (tw σc h) W) n).1 := fun h => by rw [best_sc n5]
  have hK : 0 < 12 ^ ((5 - n) * A) := Nat.pow_pos (by decide)
  obtain ⟨kk, hkk⟩ : ∃ kk, hl_ (fun h => (bst (bestC n A (tw σc h) W) n).1) g 4 = some kk := by
    cases hh : hl_ (fun h => (bst (bestC n A (tw σc h) W) n).1) g 4 with
    | some k => exact ⟨k, rfl⟩
    | none =>
      obtain ⟨e, e4, eb⟩ := bits15 g g1 g0
      rw [hl_none 4 hh e e4] at eb
      exact absurd eb (by decide)
  obtain ⟨σ1, q1, q2⟩ := hd_C (i := i) (p := p) (g := g) (lwok hlw) hst.1 eA n2 n5 hA1 hA hWe (fun d hd => ⟨hW' d hd, (hW d (by omega)).2.1⟩) hi (by omega) (fun h => by have := hqC h; omega) hkk 4 0 ab_N σc (by omega) (by rw [pu_N]; omega) ⟨rfl, hgv, hbs, fun _ => rfl⟩
  obtain ⟨σ2, z1, z2, z3⟩ := hd_M (p := p) (g := g) (K := 12 ^ ((5 - n) * A)) (q := fun h => (bst (bestC n A (tw σc h) W) n).1) (W := W) (σc := σc) (σ0 := σm) ⟨hlw, hst.2.1, eA'⟩ n2 n5 hA (fun d hd => ⟨hW' d hd, (hW d (by omega)).2.2⟩) (by omega) (fun h => by rw [← hqe]; exact hqM h) hK hqe hkk 4 0 ab_N σm (by omega) (by rw [pu_N]; omega) ⟨hlw, hst.2.1, eA'⟩ rfl
  rw [show hl_ (fun h => (bst (bestC n A (tw σc h) W) n).1) g 0 = none from rfl, show eC_ none = (-1 : Int32) from rfl, show nI 0 = (0 : Int32) from rfl] at q1
  have hl0 : hl_ (fun h => (bst (bestC n A (tw σc h) W) n).1) g 0 = none := rfl
  rw [hl0, vM_0, show iM_ none = (0 : Int32) from rfl, show nI 0 = (0 : Int32) from rfl] at z1
  have hR : Rel (i + 6) σ1 σ2 := Rel_C hh0 q2.1 z3 q2.2.1 (fun n' e e5 _ => by rw [uniq hst.1 e n5 e5]; exact q2.2.2.1)
  rw [q1, z1]
  by_cases h2 : nI p = 2
  · rw [if_pos h2, if_pos h2]
    exact ⟨_, σ1, σ2, rfl, rfl, hR⟩
  · have hp1 : p ≤ 1 := by
      by_cases e : p = 2
      · exact absurd (by rw [e]; rfl) h2
      · omega
    have b3 := wh_b (N := n - 1) (A := A) n5 (by omega) hA hW'
    have b4 := wh_b (N := 4) (A := A) n5 (by omega) hA hW'
    have b1 := hqC kk
    have b2 := hqM kk
    rw [hqe] at b2
    have hp : 0 < sm W n * 12 ^ ((n - 1) * A) := Nat.mul_pos (by omega) (Nat.pow_pos (by decide))
    rw [if_neg h2, if_neg h2, ww_C (W := W) (by rw [mC_get q2.1 rfl]; exact hst.1) (by rw [mC_get q2.1 rfl]; exact eA) (by omega) n5 hA (fun d hd => ⟨hW' d hd, by rw [mC_get q2.1 rfl]; exact (hW d (by omega)).2.1⟩), wo_M (W := W) z2.2.1 z2.2.2 n5 hA (fun d hd => ⟨hW' d hd, by rw [mM_get z3 rfl]; exact (hW d (by omega)).2.2⟩), Option.bind_some, Option.bind_some, pu_lowest hp1 (by omega) b3 hp, pu_partOf hp1 (by omega) b4 (Nat.mul_pos (by omega) (Nat.pow_pos (by decide))), wh_sc (by omega) n5, frac_scale hK]
    exact ⟨_, σ1, σ2, rfl, rfl, hR⟩
end
