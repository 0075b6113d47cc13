/-! PURE, 37: sure -/
def ml_ (q : Nat → Nat) (g : Nat) : Nat → Option Nat
  | 0 => none
  | j + 1 => if g.testBit j = true then (match ml_ q g j with
    | none => some (q j)
    | some m => if q j < m then some (q j) else some m) else ml_ q g j
theorem ml_none {q : Nat → Nat} {g : Nat} : ∀ j, ml_ q g j = none → ∀ e, e < j → g.testBit e = false
  | 0, _, e, he => by omega
  | j + 1, h, e, he => by
    unfold ml_ at h
    cases hb : g.testBit j with
    | true =>
      rw [hb, if_pos rfl] at h
      cases hh : ml_ q g j with
      | none => rw [hh] at h; cases h
      | some k => rw [hh] at h; dsimp only at h; split at h <;> cases h
    | false =>
      rw [hb, if_neg (by decide)] at h
      by_cases e1 : e = j
      · rw [e1]; exact hb
      · exact ml_none j h e (by omega)
theorem ml_le {q : Nat → Nat} {g B m : Nat} (hB : ∀ j, q j ≤ B) : ∀ j, ml_ q g j = some m → m ≤ B
  | 0, h => by cases h
  | j + 1, h => by
    unfold ml_ at h
    cases hb : g.testBit j with
    | true =>
      rw [hb, if_pos rfl] at h
      cases hh : ml_ q g j with
      | none =>
        rw [hh] at h
        rw [← Option.some.inj h]; exact hB j
      | some k' =>
        rw [hh] at h
        have ih := ml_le hB j hh
        dsimp only at h
        split at h
        · rw [← Option.some.inj h]; exact hB j
        · rw [← Option.some.inj h]; exact ih
    | false =>
      rw [hb, if_neg (by decide)] at h
      exact ml_le hB j h
theorem ml_ge {q : Nat → Nat} {g B m : Nat} (hB : ∀ j, B ≤ q j) : ∀ j, ml_ q g j = some m → B ≤ m
  | 0, h => by cases h
  | j + 1, h => by
    unfold ml_ at h
    cases hb : g.testBit j with
    | true =>
      rw [hb, if_pos rfl] at h
      cases hh : ml_ q g j with
      | none =>
        rw [hh] at h
        rw [← Option.some.inj h]; exact hB j
      | some k' =>
        rw [hh] at h
        have ih := ml_ge hB j hh
        dsimp only at h
        split at h
        · rw [← Option.some.inj h]; exact hB j
        · rw [← Option.some.inj h]; exact ih
    | false =>
      rw [hb, if_neg (by decide)] at h
      exact ml_ge hB j h
theorem ml_sc {q : Nat → Nat} {g K : Nat} (hK : 0 < K) : ∀ j, ml_ (fun h => K * q h) g j = (ml_ q g j).map (fun m => K * m)
  | 0 => rfl
  | j + 1 => by
    have st1 : ml_ (fun h => K * q h) g (j + 1) = if g.testBit j = true then (match ml_ (fun h => K * q h) g j with
      | none => some (K * q j)
      | some m => if K * q j < m then some (K * q j) else some m) else ml_ (fun h => K * q h) g j := rfl
    have st2 : ml_ q g (j + 1) = if g.testBit j = true then (match ml_ q g j with
      | none => some (q j)
      | some m => if q j < m then some (q j) else some m) else ml_ q g j := rfl
    rw [st1, st2, ml_sc hK j]
    cases g.testBit j with
    | false => rfl
    | true =>
      cases ml_ q g j with
      | none => rfl
      | some m =>
        show (if K * q j < K * m then some (K * q j) else some (K * m)) = Option.map (fun m => K * m) (if q j < m then some (q j) else some m)
        by_cases h : q j < m
        · rw [if_pos h, if_pos ((Nat.mul_lt_mul_left hK).mpr h)]; rfl
        · rw [if_neg h, if_neg (fun z => h ((Nat.mul_lt_mul_left hK).mp z))]; rfl
def mC_ (B : Nat) (o : Option Nat) : Nat := match o with
  | none => B
  | some m => m
def mM_ (o : Option Nat) : Int64 := match o with
  | none => -1
  | some m => lN m
section
variable {n A g c : Nat} {W : Nat → Nat}
def SI (σ0 σ : ab_S) : Prop := mI σ = mI σ0 ∧ R_gv σ ∧ ∀ r, r ≠ 29 → r ≠ 31 → σ.2 r = σ0.2 r
theorem su_C {p B : Nat} {stay : Int64} {σ0 : ab_S} (hL : LwOK σ0) (hn : σ0.1 1 0 3 = nI n) (hAs : σ0.1 1 0 5 = nI A) (n2 : 2 ≤ n) (n5 : n ≤ 5) (hA1 : 1 ≤ A) (hA : A ≤ 3) (hc : c < n) (hW : ∀ d, d < n → W d ≤ 12 ∧ σ0.1 2 0 d = nI (W d)) (hg : g < 32) (hB : B < 2 ^ 63) (hq : ∀ h, HV (n - 1) n 1 (tw σ0 h) A 0 0 c W ≤ B) : ∀ (k j fuel : Nat) (σ : ab_S), j + k = 4 → k < fuel → SI σ0 σ → ∃ σ', fX9_sure_b78 fuel (nI g) (nI c) (nI p) stay (lN (mC_ B (ml_ (fun h => HV (n - 1) n 1 (tw σ0 h) A 0 0 c W) g j))) (nI j) σ = fX9_sure_b78_o (fX9_sure_b78 0) (nI g) (nI c) (nI p) stay (lN (mC_ B (ml_ (fun h => HV (n - 1) n 1 (tw σ0 h) A 0 0 c W) g 4))) (nI 4) σ' ∧ SI σ0 σ' := by
  intro k
  induction k with
  | zero =>
    intro j fuel σ h1 h2 hs
    obtain ⟨f, rfl⟩ : ∃ f, fuel = f + 1 := ⟨fuel - 1, by omega⟩
    have hj : j = 4 := by omega
    subst hj
    refine ⟨σ, ?_, hs⟩
    show fX9_sure_b78_o _ _ _ _ _ _ _ _ = _
    unfold fX9_sure_b78_o
    rw [if_pos (show (4 : Int32) ≤ nI 4 from pu_le (a := 4) (by omega)), if_pos (show (4 : Int32) ≤ nI 4 from pu_le (a := 4) (by omega))]
  | succ k ih =>
    intro j fuel σ h1 h2 hs
    obtain ⟨f, rfl⟩ : ∃ f, fuel = f + 1 := ⟨fuel - 1, by omega⟩
    have st : ml_ (fun h => HV (n - 1) n 1 (tw σ0 h) A 0 0 c W) g (j + 1) = if g.testBit j = true then (match ml_ (fun h => HV (n - 1) n 1 (tw σ0 h) A 0 0 c W) g j with
      | none => some (HV (n - 1) n 1 (tw σ0 j) A 0 0 c W)
      | some m => if HV (n - 1) n 1 (tw σ0 j) A 0 0 c W < m then some (HV (n - 1) n 1 (tw σ0 j) A 0 0 c W) else some m) else ml_ (fun h => HV (n - 1) n 1 (tw σ0 h) A 0 0 c W) g j := rfl
    have nx := fun σ1 => ih (j + 1) f σ1 (by omega) (by omega)
    have hd : fX9_sure_b78 (f + 1) (nI g) (nI c) (nI p) stay (lN (mC_ B (ml_ (fun h => HV (n - 1) n 1 (tw σ0 h) A 0 0 c W) g j))) (nI j) σ = fX9_sure_b78_o (fX9_sure_b78 f) (nI g) (nI c) (nI p) stay (lN (mC_ B (ml_ (fun h => HV (n - 1) n 1 (tw σ0 h) A 0 0 c W) g j))) (nI j) σ := rfl
    rw [hd]
    have ex : ∀ v6, fX9_sure_b78_o (fX9_sure_b78 f) (nI g) (nI c) (nI p) stay v6 (nI j) σ = (fX9_isIn (nI g) (nI j)).bind fun q6 => (if q6 = 0 then fX9_sure_b78 f (nI g) (nI c) (nI p) stay v6 (nI (j + 1)) σ else (fX1_worthOf (nI j) 1 (nI c) σ).bind fun q8 => fX9_sure_b78 f (nI g) (nI c) (nI p) stay (if q8.1 < v6 then q8.1 else v6) (nI (j + 1)) q8.2) := fun v6 => by
      unfold fX9_sure_b78_o fX9_sure_b111
      rw [if_neg (pr_nle (b := 4) (by omega)), nI_1]
    rw [ex, pu_isInC g hg j (by omega), Option.bind_some]
    cases hb : g.testBit j with
    | false =>
      simp only [Bool.false_eq_true, ↓reduceIte]
      rw [hb, if_neg (show ¬ (false = true) by decide)] at st
      rw [st] at nx
      exact nx σ hs
    | true =>
      simp only [↓reduceIte, pu_10]
      rw [hb, if_pos rfl] at st
      obtain ⟨σ1, q1, q2, q3, q4⟩ := wf_C (h := j) (way := 1) (c := c) (W := W) (σ := σ) (A := A) (n := n) hs.2.1 (lwok_I hs.1 hL) (by rw [mI_get hs.1 rfl]; exact hn) (by rw [mI_get hs.1 rfl]; exact hAs) n2 n5 (by omega) hA1 hA (by omega) hc (fun d hd => ⟨(hW d hd).1, by rw [mI_get hs.1 rfl]; exact (hW d hd).2⟩)
      rw [tw_I hs.1] at q1
      have q1' : fX1_worthOf (nI j) 1 (nI c) σ = _ := q1
      have hs1 : SI σ0 σ1 := ⟨q2.trans hs.1, q3, fun r hr hr' => (q4 r hr hr').trans (hs.2.2 r hr hr')⟩
      rw [q1', Option.bind_some]
      dsimp only
      have qj := hq j
      have pick : (if lN (HV (n - 1) n 1 (tw σ0 j) A 0 0 c W) < lN (mC_ B (ml_ (fun h => HV (n - 1) n 1 (tw σ0 h) A 0 0 c W) g j)) then lN (HV (n - 1) n 1 (tw σ0 j) A 0 0 c W) else lN (mC_ B (ml_ (fun h => HV (n - 1) n 1 (tw σ0 h) A 0 0 c W) g j))) = lN (mC_ B (ml_ (fun h => HV (n - 1) n 1 (tw σ0 h) A 0 0 c W) g (j + 1))) := by
        rw [st]
        cases hh : ml_ (fun h => HV (n - 1) n 1 (tw σ0 h) A 0 0 c W) g j with
        | none =>
          show (if lN (HV (n - 1) n 1 (tw σ0 j) A 0 0 c W) < lN B then lN (HV (n - 1) n 1 (tw σ0 j) A 0 0 c W) else lN B) = lN (HV (n - 1) n 1 (tw σ0 j) A 0 0 c W)
          by_cases z : HV (n - 1) n 1 (tw σ0 j) A 0 0 c W < B
          · rw [if_pos ((pk_lLT (by omega) hB).mpr z)]
          · rw [if_neg (fun y => z ((pk_lLT (by omega) hB).mp y)), show B = HV (n - 1) n 1 (tw σ0 j) A 0 0 c W by omega]
        | some m =>
          have hm := ml_le (B := B) hq j hh
          show (if lN (HV (n - 1) n 1 (tw σ0 j) A 0 0 c W) < lN m then lN (HV (n - 1) n 1 (tw σ0 j) A 0 0 c W) else lN m) = lN (mC_ B (if HV (n - 1) n 1 (tw σ0 j) A 0 0 c W < m then some (HV (n - 1) n 1 (tw σ0 j) A 0 0 c W) else some m))
          by_cases z : HV (n - 1) n 1 (tw σ0 j) A 0 0 c W < m
          · rw [if_pos ((pk_lLT (by omega) (by omega)).mpr z), if_pos z]; rfl
          · rw [if_neg (fun y => z ((pk_lLT (by omega) (by omega)).mp y)), if_neg z]; rfl
      rw [pick]
      exact nx σ1 hs1
theorem su_M {way : Nat} {σc σ0 : ab_S} (hE0 : EnM n A σc σ0) (n5 : n ≤ 5) (hA : A ≤ 3) (hway : way ≤ 2) (hc : c < n) (hW : ∀ d, d < n → W d ≤ 12 ∧ σ0.1 1 0 d = nI (W d)) (hg : g < 32) : ∀ (k j fuel : Nat) (σ : ab_S), j + k = 4 → k < fuel → frM σ0 σ 0 → ∃ σ', fX10_leastOf_b8 fuel (nI g) (nI way) (nI c) (mM_ (ml_ (fun h => HV 4 n way (tw σc h) A 0 0 c W) g j)) (nI j) σ = some (mM_ (ml_ (fun h => HV 4 n way (tw σc h) A 0 0 c W) g 4), σ') ∧ frM σ0 σ' 0 := by
  have hb : ∀ h, HV 4 n way (tw σc h) A 0 0 c W < 2 ^ 63 := fun h => HV_b (by omega) n5 (by omega) (by omega) hA hc (fun d hd => (hW d hd).1)
  intro k
  induction k with
  | zero =>
    intro j fuel σ h1 h2 hs
    obtain ⟨f, rfl⟩ : ∃ f, fuel = f + 1 := ⟨fuel - 1, by omega⟩
    have hj : j = 4 := by omega
    subst hj
    refine ⟨σ, ?_, hs⟩
    show fX10_leastOf_b8_o _ _ _ _ _ _ _ = _
    unfold fX10_leastOf_b8_o
    rw [if_pos (show (4 : Int32) ≤ nI 4 from pu_le (a := 4) (by omega))]
  | succ k ih =>
    intro j fuel σ h1 h2 hs
    obtain ⟨f, rfl⟩ : ∃ f, fuel = f + 1 := ⟨fuel - 1, by omega⟩
    have st : ml_ (fun h => HV 4 n way (tw σc h) A 0 0 c W) g (j + 1) = if g.testBit j = true then (match ml_ (fun h => HV 4 n way (tw σc h) A 0 0 c W) g j with
      | none => some (HV 4 n way (tw σc j) A 0 0 c W)
      | some m => if HV 4 n way (tw σc j) A 0 0 c W < m then some (HV 4 n way (tw σc j) A 0 0 c W) else some m) else ml_ (fun h => HV 4 n way (tw σc h) A 0 0 c W) g j := rfl
    have nx := fun σ1 => ih (j + 1) f σ1 (by omega) (by omega)
    show ∃ σ', fX10_leastOf_b8_o (fX10_leastOf_b8 f) _ _ _ _ _ σ = _ ∧ _
    unfold fX10_leastOf_b8_o fX10_leastOf_b48 fX10_leastOf_b55 fX10_leastOf_b57
    rw [if_neg (pr_nle (b := 4) (by omega)), pu_isInM g hg j (by omega), Option.bind_some, nI_1]
    cases hbb : g.testBit j with
    | false =>
      simp only [Bool.false_eq_true, ↓reduceIte]
      rw [hbb, if_neg (show ¬ (false = true) by decide)] at st
      rw [st] at nx
      exact nx σ hs
    | true =>
      simp only [↓reduceIte, pu_10]
      rw [hbb, if_pos rfl] at st
      obtain ⟨σ1, q1, q2⟩ := wf_ok (h := j) (way := way) (c := c) (W := W) (σc := σc) (σ := σ) (EnM_fr hE0 hs) n5 (by omega) hA hway hc (fun d hd => ⟨(hW d hd).1, by rw [mJ_get hs.1 rfl]; exact (hW d hd).2⟩)
      have hs1 := frM_tr hs q2 (Nat.le_refl _)
      have bj := hb j
      rw [q1, Option.bind_some]
      dsimp only
      cases hh : ml_ (fun h => HV 4 n way (tw σc h) A 0 0 c W) g j with
      | none =>
        rw [hh] at st
        rw [st] at nx
        rw [if_pos (show lg_cmp (mM_ none) 0 < 0 from by rw [lg_cmp_lt]; decide)]
        exact nx σ1 hs1
      | some m =>
        rw [hh] at st
        dsimp only at st
        have hm := ml_le (B := 2 ^ 63 - 1) (fun h => by have := hb h; omega) j hh
        have nn : ¬ lg_cmp (lN m) 0 < 0 := fun z => by rw [lg_cmp_lt, show (0 : Int64) = lN 0 from rfl, pk_lLT (by omega) (by omega)] at z; omega
        have cm : 0 ≤ lg_cmp (lN (HV 4 n way (tw σc j) A 0 0 c W)) (lN m) ↔ m ≤ HV 4 n way (tw σc j) A 0 0 c W := by
          rw [lg_cmp_ge, pk_lLE (by omega) (by omega)]
        show ∃ σ', (if lg_cmp (lN m) 0 < 0 then _ else (if 0 ≤ lg_cmp (lN (HV 4 n way (tw σc j) A 0 0 c W)) (lN m) then _ else _)) = _ ∧ _
        rw [if_neg nn]
        by_cases z : HV 4 n way (tw σc j) A 0 0 c W < m
        · rw [if_neg (fun y => by have := cm.mp y; omega)]
          rw [if_pos z] at st
          rw [st] at nx
          exact nx σ1 hs1
        · rw [if_pos (cm.mpr (by omega))]
          rw [if_neg z] at st
          rw [st] at nx
          exact nx σ1 hs1
end
section
variable {i : Nat} {σc σm : ab_S}
theorem pp_sure (h : Rel i σc σm) (hi : i ≤ 3072) (a0 : Int32) (a1 : Int32) (a2 : Int32) : ∃ (r : Int64) (σc1 : ab_S) (σm1 : ab_S), fX9_sure a0 a1 a2 σc = some (r, σc1) ∧ fX10_sure a0 a1 a2 σm = some (r, σm1) ∧ Rel (i + 6) σc1 σm1 := by
  have hh0 := h
  have h0 := Rel_mono h
  obtain ⟨n, b, n2, n5, hst, hev, him, hch, htp, hlw, hgv, hbs, hbd, hsh⟩ := h
  obtain ⟨W, hW, hWe⟩ := st_W hst
  obtain ⟨A, hA1, hA, eA, eA'⟩ := acts_x hst
  obtain ⟨⟨k, hk, k1⟩, k2⟩ := hst.2.2.2.2.1
  unfold fX9_sure fX10_sure fX9_sure_b30 fX10_sure_b28
  rcases pu_rng a0 1 15 with hv | ⟨g, g0, g1, rfl⟩
  · rw [pu_areHostsC_no hv, pu_areHostsM_no hv]
    exact ⟨_, σc, σm, rfl, rfl, h0⟩
  rw [pu_areHostsC_yes g0 g1, pu_areHostsM_yes g0 g1, Option.bind_some, Option.bind_some, if_neg pu_10, if_neg pu_10]
  rcases pu_ix a1 n (by omega) with hx | ⟨c, hc, rfl⟩
  · rw [pu_has_no hst.1 hx, pu_isDoor_no hst.2.1 hx (by omega)]
    exact ⟨_, σc, σm, rfl, rfl, h0⟩
  rw [pu_has_yes hst.1 hc, pu_isDoor_yes hst.2.1 hc, Option.bind_some, Option.bind_some, if_neg pu_10, if_neg pu_10]
  rcases pu_rng a2 0 2 with hv | ⟨p, p0, p2, rfl⟩
  · rw [show fX10_within a2.toInt64 0 2 = some 0 from pu_wi_no (lo := 0) (hi := 2) hv]
    refine ⟨_, σc, σm, ?_, rfl, h0⟩
    rw [pu_isPart_no (by
      rcases hv with q | q
      · exact Or.inl q
      · refine Or.inr ?_
        rw [Int32.lt_iff_toInt_lt, nI_toInt (by omega)] at q ⊢
        omega), Option.bind_some, if_pos rfl, if_neg (fun e => by
      rw [e] at hv
      rcases hv with q | q
      · exact absurd q (by decide)
      · exact absurd q (by decide))]
  have cls : ((fX9_isPart (nI p)).bind fun q3 => (if q3 = 0 then (if nI p = 2 then fX9_sure_b34 (nI g) (nI c) (nI p) σc else some ((-9223372036854775808), σc)) else fX9_sure_b34 (nI g) (nI c) (nI p) σc)) = fX9_sure_b34 (nI g) (nI c) (nI p) σc := by
    by_cases h2 : p = 2
    · subst h2
      rw [show fX9_isPart (nI 2) = some 0 from rfl, Option.bind_some, if_pos (show (0 : Int32) = 0 from rfl), if_pos (show nI 2 = 2 from rfl)]
    · rw [pu_isPart_yes (by omega), Option.bind_some, if_neg pu_10]
  rw [cls, show fX10_within (nI p).toInt64 0 2 = some 1 from pu_wi_yes (lo := 0) (hi := 2) p0 p2, Option.bind_some, if_neg pu_10]
  unfold fX9_sure_b34
  have sb := sm_le (f := W) (B := 12) n (fun d hd => (hW d (by omega)).1)
  have hW' : ∀ d, d < n → W d ≤ 12 := fun d hd => (hW d (by omega)).1
  have hTc : ∀ h a r c d x, tw σc h a r c d x ≤ 12 := fun h a r c d x => twV_le _ _ _ _ _ _ _ _ _
  rw [tg_c hst.1 n5 (fun d hd => (hW d (by omega)).2.1), al_m hst.2.1 n5 (fun d hd => (hW d (by omega)).2.2), Option.bind_some, Option.bind_some]
  by_cases hz : sm W n = 0
  · rw [hz]
    exact ⟨-2, σc, σm, rfl, rfl, h0⟩
  rw [if_neg (pl_ne (b := 0) hz), if_neg (pl_ne (b := 0) hz), k1]
  obtain ⟨e, e4, eb⟩ := bits15 g g1 g0
  have b3 := wh_b (N := n - 1) (A := A) n5 (by omega) hA hW'
  have b4 := wh_b (N := 4) (A := A) n5 (by omega) hA hW'
  have hK : 0 < 12 ^ ((5 - n) * A) := Nat.pow_pos (by decide)
  have hp : 0 < sm W n * 12 ^ ((n - 1) * A) := Nat.mul_pos (by omega) (Nat.pow_pos (by decide))
  have tot : ∀ h, HV (n - 1) n 1 (tw σc h) A 0 0 c W ≤ sm W n * 12 ^ ((n - 1) * A) := fun h => HV_tot (hTc h) (Nat.le_refl _) hc
  -- the class
  obtain ⟨σ1, q1, q2, q3, q4⟩ := wf_C (h := k) (way := 0) (c := c) hgv (lwok hlw) hst.1 eA n2 n5 hk hA1 hA (by omega) hc (fun d hd => ⟨hW' d hd, (hW d (by omega)).2.1⟩)
  rw [HV_way0 (hTc k) (Nat.le_refl _) hc] at q1
  have q1' : fX1_worthOf (nI k) 0 (nI c) σc = _ := q1
  obtain ⟨σ2, z1, z2⟩ := su_C (p := p) (g := g) (c := c) (W := W) (B := sm W n * 12 ^ ((n - 1) * A)) (stay := lN (W c * 12 ^ ((n - 1) * A))) (σ0 := σ1) (n := n) (A := A) (lwok_I q2 (lwok hlw)) (by rw [mI_get q2 rfl]; exact hst.1) (by rw [mI_get q2 rfl]; exact eA) n2 n5 hA1 hA hc (fun d hd => ⟨hW' d hd, by rw [mI_get q2 rfl]; exact (hW d (by omega)).2.1⟩) (by omega) b3 (fun h => by rw [tw_I q2]; exact tot h) 4 0 ab_N σ1 (by omega) (by rw [pu_N]; omega) ⟨rfl, q3, fun _ _ _ => rfl⟩
  simp only [tw_I q2] at z1
  -- the reference
  obtain ⟨τ1, w1, w2⟩ := su_M (way := 0) (g := g) (c := c) (W := W) (σc := σc) (σ0 := σm) (n := n) (A := A) ⟨hlw, hst.2.1, eA'⟩ n5 hA (by omega) hc (fun d hd => ⟨hW' d hd, (hW d (by omega)).2.2⟩) (by omega) 4 0 ab_N σm (by omega) (by rw [pu_N]; omega) frM_rfl
  obtain ⟨τ2, w3, w4⟩ := su_M (way := 1) (g := g) (c := c) (W := W) (σc := σc) (σ0 := τ1) (n := n) (A := A) (EnM_fr ⟨hlw, hst.2.1, eA'⟩ w2) n5 hA (by omega) hc (fun d hd => ⟨hW' d hd, by rw [mJ_get w2.1 rfl]; exact (hW d (by omega)).2.2⟩) (by omega) 4 0 ab_N τ1 (by omega) (by rw [pu_N]; omega) frM_rfl
  obtain ⟨m, hm⟩ : ∃ m, ml_ (fun h => HV (n - 1) n 1 (tw σc h) A 0 0 c W) g 4 = some m := by
    cases hh : ml_ (fun h => HV (n - 1) n 1 (tw σc h) A 0 0 c W) g 4 with
    | some k => exact ⟨k, rfl⟩
    | none =>
      rw [ml_none 4 hh e e4] at eb
      exact absurd eb (by decide)
  have hm4 : ml_ (fun h => HV 4 n 1 (tw σc h) A 0 0 c W) g 4 = some (12 ^ ((5 - n) * A) * m) := by
    have : (fun h => HV 4 n 1 (tw σc h) A 0 0 c W) = (fun h => 12 ^ ((5 - n) * A) * HV (n - 1) n 1 (tw σc h) A 0 0 c W) := funext fun h => HV_sc n5 hc
    rw [this, ml_sc (q := fun h => HV (n - 1) n 1 (tw σc h) A 0 0 c W) hK, hm]
    rfl
  have h04 : ml_ (fun h => HV 4 n 0 (tw σc h) A 0 0 c W) g 4 = some (W c * 12 ^ (4 * A)) := by
    cases hh : ml_ (fun h => HV 4 n 0 (tw σc h) A 0 0 c W) g 4 with
    | none =>
      rw [ml_none 4 hh e e4] at eb
      exact absurd eb (by decide)
    | some m0 =>
      have u1 := ml_le (B := W c * 12 ^ (4 * A)) (fun h => by rw [HV_way0 (hTc h) (by omega) hc]; exact Nat.le_refl _) 4 hh
      have u2 := ml_ge (B := W c * 12 ^ (4 * A)) (fun h => by rw [HV_way0 (hTc h) (by omega) hc]; exact Nat.le_refl _) 4 hh
      rw [show m0 = W c * 12 ^ (4 * A) by omega]
  rw [h04] at w1
  rw [hm4] at w3
  rw [hm] at z1
  have mle := ml_le tot 4 hm
  have w1' : fX10_leastOf (nI g) 0 (nI c) σm = some (lN (W c * 12 ^ (4 * A)), τ1) := w1
  have w3' : fX10_leastOf (nI g) 1 (nI c) τ1 = some (lN (12 ^ ((5 - n) * A) * m), τ2) := w3
  have z1' : fX9_sure_b78 ab_N (nI g) (nI c) (nI p) (lN (W c * 12 ^ ((n - 1) * A))) (lN (sm W n * 12 ^ ((n - 1) * A))) 0 σ1 = fX9_sure_b78_o (fX9_sure_b78 0) (nI g) (nI c) (nI p) (lN (W c * 12 ^ ((n - 1) * A))) (lN m) (nI 4) σ2 := z1
  have wc_sc : W c * 12 ^ (4 * A) = 12 ^ ((5 - n) * A) * (W c * 12 ^ ((n - 1) * A)) := by
    rw [Nat.mul_left_comm, ← Nat.pow_add, ← Nat.add_mul, show 5 - n + (n - 1) = 4 by omega]
  have hR : Rel (i + 6) σ2 τ2 := Rel_fr hh0 ((mB_I z2.1 (z2.2.2 43 (by omega) (by omega)) (z2.2.2 32 (by omega) (by omega))).trans (mB_I q2 (q4 43 (by omega) (by omega)) (q4 32 (by omega) (by omega)))) ((frM_mM w4).trans (frM_mM w2)) z2.2.1
  have stle : W c * 12 ^ ((n - 1) * A) ≤ sm W n * 12 ^ ((n - 1) * A) := Nat.mul_le_mul_right _ (sm_ge n c hc)
  have sc4 := wh_sc (W := W) (A := A) (n := n) (by omega) n5
  have mle4 : 12 ^ ((5 - n) * A) * m ≤ sm W n * 12 ^ (4 * A) := by rw [sc4]; exact Nat.mul_le_mul_left _ mle
  have stle4 : W c * 12 ^ (4 * A) ≤ sm W n * 12 ^ (4 * A) := Nat.mul_le_mul_right _ (sm_ge n c hc)
  have cC : (lg_cmp (lN m) (lN (W c * 12 ^ ((n - 1) * A))) ≤ 0) ↔ m ≤ W c * 12 ^ ((n - 1) * A) := by rw [lg_cmp_le, pk_lLE (by omega) (by omega)]
  have cM : (lg_cmp (lN (12 ^ ((5 - n) * A) * m)) (lN (W c * 12 ^ (4 * A))) ≤ 0) ↔ m ≤ W c * 12 ^ ((n - 1) * A) := by
    rw [lg_cmp_le, pk_lLE (by omega) (by omega), wc_sc]
    exact Nat.mul_le_mul_left_iff hK
  have wwC : ∀ σ, mI σ = mI σc → fX7_wholeWorth σ = some (lN (sm W n * 12 ^ ((n - 1) * A))) := fun σ hσ => ww_C (W := W) (by rw [mI_get hσ rfl]; exact hst.1) (by rw [mI_get hσ rfl]; exact eA) (by omega) n5 hA (fun d hd => ⟨hW' d hd, by rw [mI_get hσ rfl]; exact (hW d (by omega)).2.1⟩)
  have woM : fX10_wholeOf τ2 = some (lN (sm W n * 12 ^ (4 * A))) := by
    have m2 := w4.1.trans w2.1
    exact wo_M (W := W) (by rw [mJ_get m2 rfl]; exact hst.2.1) (by rw [mJ_get m2 rfl]; exact eA') n5 hA (fun d hd => ⟨hW' d hd, by rw [mJ_get m2 rfl]; exact (hW d (by omega)).2.2⟩)
  rw [q1', w1', Option.bind_some, Option.bind_some]
  dsimp only
  rw [wwC σ1 q2, w3', Option.bind_some, Option.bind_some, z1']
  dsimp only
  unfold fX9_sure_b78_o fX9_sure_b135 fX10_sure_b79 fX10_sure_b95
  rw [if_pos (show (4 : Int32) ≤ nI 4 from pu_le (a := 4) (by omega)), wwC σ2 (z2.1.trans q2), woM]
  by_cases h2 : nI p = 2
  · rw [if_pos h2, if_pos h2]
    by_cases q : m ≤ W c * 12 ^ ((n - 1) * A)
    · rw [if_pos (cC.mpr q), if_pos (cM.mpr q)]
      exact ⟨_, σ2, τ2, rfl, rfl, hR⟩
    · rw [if_neg (fun z => q (cC.mp z)), if_neg (fun z => q (cM.mp z))]
      exact ⟨_, σ2, τ2, rfl, rfl, hR⟩
  · have hp1 : p ≤ 1 := by
      by_cases e : p = 2
      · exact absurd (by rw [e]; rfl) h2
      · omega
    have hp4 : 0 < sm W n * 12 ^ (4 * A) := Nat.mul_pos (by omega) (Nat.pow_pos (by decide))
    rw [if_neg h2, if_neg h2, Option.bind_some, Option.bind_some]
    by_cases q : m ≤ W c * 12 ^ ((n - 1) * A)
    · rw [if_pos (cM.mpr q)]
      have pick : (if lN m < lN (W c * 12 ^ ((n - 1) * A)) then lN (W c * 12 ^ ((n - 1) * A)) else lN m) = lN (W c * 12 ^ ((n - 1) * A)) := by
        by_cases z : m < W c * 12 ^ ((n - 1) * A)
        · rw [if_pos ((pk_lLT (by omega) (by omega)).mpr z)]
        · rw [if_neg (fun y => z ((pk_lLT (by omega) (by omega)).mp y)), show m = W c * 12 ^ ((n - 1) * A) by omega]
      rw [pick, pu_lowest hp1 (by omega) b3 hp, pu_partOf hp1 (by omega) b4 hp4, sc4, wc_sc, frac_scale hK]
      exact ⟨_, σ2, τ2, rfl, rfl, hR⟩
    · rw [if_neg (fun z => q (cM.mp z)), if_neg (fun y => q (by have := (pk_lLT (by omega) (by omega)).mp y; omega)), pu_lowest hp1 (by omega) b3 hp, Option.bind_some, Option.bind_some, pu_partOf hp1 (by omega) b4 hp4, sc4, frac_scale hK]
      exact ⟨_, σ2, τ2, rfl, rfl, hR⟩
end
