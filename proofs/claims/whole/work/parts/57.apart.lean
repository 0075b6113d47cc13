/-! PURE, 26: apart -/
def ttl (G H : Nat) : Nat → Nat → Int32
  | 0, _ => -2
  | k + 1, e => if G ^ (e + 1) < 12 * H ^ (e + 1) then ttl G H k (e + 1) else nI (e + 1)
theorem ttl_sc {G H K : Nat} (hK : 0 < K) : ∀ k e, ttl (K * G) (K * H) k e = ttl G H k e
  | 0, _ => rfl
  | k + 1, e => by
    unfold ttl
    rw [ttl_sc hK k]
    have : ((K * G) ^ (e + 1) < 12 * (K * H) ^ (e + 1)) ↔ (G ^ (e + 1) < 12 * H ^ (e + 1)) := by
      rw [Nat.mul_pow, Nat.mul_pow, Nat.mul_left_comm]
      exact Nat.mul_lt_mul_left (Nat.pow_pos hK)
    simp only [this]
theorem ttl_0 {H : Nat} (hH : 0 < H) : ∀ k e, ttl 0 H k e = -2
  | 0, _ => rfl
  | k + 1, e => by
    unfold ttl
    rw [if_pos (by rw [Nat.zero_pow (by omega)]; exact Nat.mul_pos (by decide) (Nat.pow_pos hH)), ttl_0 hH]
theorem pw {G e : Nat} (hG : G ≤ 12 ^ 4) (he : e ≤ 4) : G ^ e ≤ 12 ^ 16 := by
  calc G ^ e ≤ (12 ^ 4) ^ e := Nat.pow_le_pow_left hG e
    _ ≤ (12 ^ 4) ^ 4 := Nat.pow_le_pow_right (by decide) he
    _ = 12 ^ 16 := by decide
theorem tt_C {G H : Nat} (hG : G ≤ 12 ^ 4) (hH : H ≤ 12 ^ 4) : ∀ (k e fuel : Nat), e + k = 4 → k < fuel → fX9_timesTill_b20 fuel (lN G) (lN H) (lN (G ^ e)) (lN (12 * H ^ e)) (nI (e + 1)) = some (ttl G H k e) := by
  intro k
  induction k with
  | zero =>
    intro e fuel h1 h2
    obtain ⟨f, rfl⟩ : ∃ f, fuel = f + 1 := ⟨fuel - 1, by omega⟩
    show fX9_timesTill_b20_o _ _ _ _ _ _ = _
    unfold fX9_timesTill_b20_o
    rw [if_pos (pr_lt (b := 4) (by omega))]
    rfl
  | succ k ih =>
    intro e fuel h1 h2
    obtain ⟨f, rfl⟩ : ∃ f, fuel = f + 1 := ⟨fuel - 1, by omega⟩
    show fX9_timesTill_b20_o _ _ _ _ _ _ = _
    unfold fX9_timesTill_b20_o ttl
    have p1 := pw (e := e + 1) hG (by omega)
    have p2 := pw (e := e + 1) hH (by omega)
    rw [if_neg (pr_nlt (b := 4) (by omega)), lN_mul, lN_mul, Nat.mul_assoc, ← Nat.pow_succ, ← Nat.pow_succ, nI_1]
    have hc : (lg_cmp (lN (G ^ e.succ)) (lN (12 * H ^ e.succ)) < 0) ↔ G ^ (e + 1) < 12 * H ^ (e + 1) := by
      rw [lg_cmp_lt, pk_lLT (by show G ^ (e + 1) < _; omega) (by show 12 * H ^ (e + 1) < _; omega)]
    by_cases q : G ^ (e + 1) < 12 * H ^ (e + 1)
    · rw [if_pos (hc.mpr q), if_pos q]
      exact ih (e + 1) f (by omega) (by omega)
    · rw [if_neg (fun z => q (hc.mp z)), if_neg q]
theorem tt_M {G H : Nat} {σ : ab_S} (hG : G ≤ 12 ^ 4) (hH : H ≤ 12 ^ 4) : ∀ (k e fuel : Nat), e + k = 4 → k < fuel → fX10_apart_b153 fuel (lN G) (lN H) (lN (G ^ e)) (lN (12 * H ^ e)) (nI (e + 1)) σ = some (if G = 0 then -2 else ttl G H k e, σ) := by
  intro k
  induction k with
  | zero =>
    intro e fuel h1 h2
    obtain ⟨f, rfl⟩ : ∃ f, fuel = f + 1 := ⟨fuel - 1, by omega⟩
    show fX10_apart_b153_o _ _ _ _ _ _ _ = _
    unfold fX10_apart_b153_o
    rw [if_pos (pr_lt (b := 4) (by omega))]
    by_cases hz : G = 0
    · rw [if_pos hz]
    · rw [if_neg hz]; rfl
  | succ k ih =>
    intro e fuel h1 h2
    obtain ⟨f, rfl⟩ : ∃ f, fuel = f + 1 := ⟨fuel - 1, by omega⟩
    show fX10_apart_b153_o _ _ _ _ _ _ _ = _
    unfold fX10_apart_b153_o fX10_apart_b191
    have p1 := pw (e := e + 1) hG (by omega)
    have p2 := pw (e := e + 1) hH (by omega)
    rw [if_neg (pr_nlt (b := 4) (by omega)), lN_mul, lN_mul, Nat.mul_assoc, ← Nat.pow_succ, ← Nat.pow_succ, nI_1]
    have hc : (lg_cmp (lN (G ^ e.succ)) (lN (12 * H ^ e.succ)) < 0) ↔ G ^ (e + 1) < 12 * H ^ (e + 1) := by
      rw [lg_cmp_lt, pk_lLT (by show G ^ (e + 1) < _; omega) (by show 12 * H ^ (e + 1) < _; omega)]
    have h0 : (lg_cmp (lN G) 0 ≤ 0) ↔ G ≤ 0 := by rw [lg_cmp_le, show (0 : Int64) = lN 0 from rfl, pk_lLE (by omega) (by omega)]
    have nx := ih (e + 1) f (by omega) (by omega)
    by_cases hz : G = 0
    · rw [if_pos (h0.mpr (by omega)), if_pos hz]
      rw [if_pos hz] at nx
      exact nx
    · rw [if_neg (fun z => hz (by have := h0.mp z; omega)), if_neg hz]
      rw [if_neg hz] at nx
      unfold ttl
      by_cases q : G ^ (e + 1) < 12 * H ^ (e + 1)
      · rw [if_pos (hc.mpr q), if_pos q]
        exact nx
      · rw [if_neg (fun z => q (hc.mp z)), if_neg q]
theorem has_neg {n : Nat} {σ : ab_S} (hn : σ.1 1 0 3 = nI n) (n5 : n ≤ 5) {x : Int32} (hx : x < 0) : fX7_has x σ = some 0 := pu_has_no hn (Or.inl hx)
theorem has_some {n : Nat} {σ : ab_S} (hn : σ.1 1 0 3 = nI n) (n1 : 1 ≤ n) (n5 : n ≤ 5) (x : Int32) : fX7_has x σ = some 0 ∨ fX7_has x σ = some 1 := by
  rcases pu_ix x n (by omega) with q | ⟨d, hd, rfl⟩
  · exact Or.inl (pu_has_no hn q)
  · exact Or.inr (pu_has_yes hn hd)
section
variable {i : Nat} {σc σm : ab_S}
theorem pp_apart (h : Rel i σc σm) (hi : i ≤ 3072) (a0 : Int32) (a1 : Int32) : ∃ (r : Int32) (σc1 : ab_S) (σm1 : ab_S), fX9_apart a0 a1 σc = some (r, σc1) ∧ fX10_apart a0 a1 σm = some (r, σm1) ∧ Rel (i + 6) σc1 σm1 := by
  have hh0 := h
  have h0 := Rel_mono h
  obtain ⟨n, b, n2, n5, hst, hev, him, hch, htp, hlw, hgv, hbs, hbd, hsh⟩ := h
  have dC := hst.1
  have dM := hst.2.1
  unfold fX9_apart fX10_apart fX9_apart_b37 fX9_apart_b103 fX10_apart_b88
  have bad : ∀ v1 v2 v3, fX10_apart_b89 v1 v2 v3 0 σm = some (-1, σm) := fun v1 v2 v3 => by
    unfold fX10_apart_b89
    exact if_pos rfl
  simp only [bad]
  by_cases hneg : a0 < 0
  · rw [if_pos hneg]
    refine ⟨-1, σc, σm, ?_, rfl, h0⟩
    obtain ⟨k, k1, k2, k3⟩ := neg_nat hneg
    have dv : (a0 / 10).toInt = _ := div_neg (K := 10) k1 k2 (by omega) (by omega)
    by_cases hq : a0 / 10 < 0
    · rw [if_pos hq]
    · have hz : a0 / 10 = 0 := eq_of_toInt (by
        rw [Int32.lt_iff_toInt_lt, Int32.toInt_zero] at hq
        omega)
      rw [mod_small hz, hz, if_neg (by decide), if_neg (by decide), if_pos hneg]
  rw [if_neg hneg]
  obtain ⟨a, ha, rfl⟩ := nI_of hneg
  have ed : nI a / 10 = nI (a / 10) := pk_div (d := 10) ha (by omega) (by omega)
  have er : ab_mod (nI a) 10 = nI (a % 10) := pk_rem (d := 10) ha (by omega) (by omega)
  rw [ed, er, if_neg (pu_n1l (by omega))]
  by_cases h4 : 4 ≤ a / 10
  · rw [if_pos (show (4 : Int32) ≤ nI (a / 10) from pu_le (a := 4) h4), if_pos (show (4 : Int32) ≤ nI (a / 10) from pu_le (a := 4) h4)]
    exact ⟨-1, σc, σm, rfl, rfl, h0⟩
  have n4 : ¬ (4 : Int32) ≤ nI (a / 10) := pr_nle (b := 4) (by omega)
  rw [if_neg n4, if_neg n4, if_neg (pu_n1l (by omega))]
  by_cases h5 : 4 ≤ a % 10
  · rw [if_pos (show (4 : Int32) ≤ nI (a % 10) from pu_le (a := 4) h5), if_pos (show (4 : Int32) ≤ nI (a % 10) from pu_le (a := 4) h5)]
    exact ⟨-1, σc, σm, rfl, rfl, h0⟩
  have n5' : ¬ (4 : Int32) ≤ nI (a % 10) := pr_nle (b := 4) (by omega)
  rw [if_neg n5', if_neg n5']
  by_cases h6 : nI (a / 10) = nI (a % 10)
  · rw [if_pos h6, if_pos h6]
    exact ⟨-1, σc, σm, rfl, rfl, h0⟩
  rw [if_neg h6, if_neg h6]
  by_cases hneg2 : a1 < 0
  · rw [if_pos hneg2]
    refine ⟨-1, σc, σm, ?_, rfl, h0⟩
    obtain ⟨k, k1, k2, k3⟩ := neg_nat hneg2
    have d100 : (a1 / 100).toInt = _ := div_neg (K := 100) k1 k2 (by omega) (by omega)
    have d10 : (a1 / 10).toInt = _ := div_neg (K := 10) k1 k2 (by omega) (by omega)
    rcases has_some dC (by omega) n5 (a1 / 100) with q | q
    · rw [q]; rfl
    rw [q, Option.bind_some, if_neg pu_10]
    rcases has_some dC (by omega) n5 (ab_mod (a1 / 10) 10) with q2 | q2
    · rw [q2]; rfl
    rw [q2, Option.bind_some, if_neg pu_10]
    have hk : k < 100 := by
      by_cases z : k < 100
      · exact z
      · rw [pu_has_no dC (Or.inl (lt_of_toInt (by omega)))] at q
        exact absurd q (by decide)
    have z10 : a1 / 10 / 10 = 0 := eq_of_toInt (by
      have : (a1 / 10 / 10).toInt = _ := div_neg (K := 10) d10 (by omega) (by omega) (by omega)
      omega)
    rw [mod_small z10] at q2
    have hk2 : k < 10 := by
      by_cases z : k < 10
      · exact z
      · rw [pu_has_no dC (Or.inl (lt_of_toInt (by omega)))] at q2
        exact absurd q2 (by decide)
    have z1 : a1 / 10 = 0 := eq_of_toInt (by omega)
    rw [mod_small z1, pu_has_no dC (Or.inl hneg2)]
    rfl
  rw [if_neg hneg2]
  obtain ⟨e, he, rfl⟩ := nI_of hneg2
  have e100 : nI e / 100 = nI (e / 100) := pk_div (d := 100) he (by omega) (by omega)
  have e10 : nI e / 10 = nI (e / 10) := pk_div (d := 10) he (by omega) (by omega)
  have em : ab_mod (nI e) 10 = nI (e % 10) := pk_rem (d := 10) he (by omega) (by omega)
  have em2 : ab_mod (nI (e / 10)) 10 = nI (e / 10 % 10) := pk_rem (d := 10) (by omega) (by omega) (by omega)
  rw [e100, e10, em, em2]
  by_cases g1' : ¬ e / 100 < n
  · rw [pu_has_no dC (Or.inr (pu_le (by omega))), pu_isDoor_no dM (Or.inr (pu_le (by omega))) (by omega)]
    exact ⟨-1, σc, σm, rfl, rfl, h0⟩
  have g1 : e / 100 < n := by omega
  rw [pu_has_yes dC g1, pu_isDoor_yes dM g1, Option.bind_some, Option.bind_some, if_neg pu_10, if_neg pu_10]
  by_cases g2' : ¬ e / 10 % 10 < n
  · rw [pu_has_no dC (Or.inr (pu_le (by omega))), pu_isDoor_no dM (Or.inr (pu_le (by omega))) (by omega)]
    exact ⟨-1, σc, σm, rfl, rfl, h0⟩
  have g2 : e / 10 % 10 < n := by omega
  rw [pu_has_yes dC g2, pu_isDoor_yes dM g2, Option.bind_some, Option.bind_some, if_neg pu_10, if_neg pu_10]
  by_cases g3' : ¬ e % 10 < n
  · rw [pu_has_no dC (Or.inr (pu_le (by omega))), pu_isDoor_no dM (Or.inr (pu_le (by omega))) (by omega)]
    exact ⟨-1, σc, σm, rfl, rfl, h0⟩
  have g3 : e % 10 < n := by omega
  rw [pu_has_yes dC g3, pu_isDoor_yes dM g3, Option.bind_some, Option.bind_some, if_neg pu_10, if_neg pu_10]
  by_cases g4 : e / 10 % 10 = e / 100
  · rw [if_pos (by rw [g4]), if_pos (by rw [g4])]
    exact ⟨-1, σc, σm, rfl, rfl, h0⟩
  rw [if_neg (pu_ne g4), if_neg (pu_ne g4)]
  have hd : DU n (e / 100) 0 (nI (e / 10 % 10)) := Or.inr ⟨_, g2, rfl, by rw [el_isIn g4, Nat.zero_testBit]; rfl⟩
  have vv : ∀ N h', thv N n (tw σc h') (nI (e / 100)) (nI (e / 10 % 10)) (nI (e % 10)) = sho N n (fun d => tw σc h' 0 0 (e / 100) d (e % 10)) (e / 100) 0 (nI (e / 10 % 10)) := fun N h' => by
    unfold thv
    rw [if_neg, cl_nI (by omega), cl_nI (by omega)]
    intro z
    rcases z with z | z | z | z
    · exact z.elim (fun z => pu_n1l (by omega) z) (fun z => pu_nle g1 (by omega) z)
    · exact z.elim (fun z => pu_n1l (by omega) z) (fun z => pu_nle g3 (by omega) z)
    · exact pu_ne g4 (by omega) (by omega) z
    · exact z.2.elim (fun z => pu_n1l (by omega) z) (fun z => pu_nle g2 (by omega) z)
  obtain ⟨σ1, q1, q2, q3⟩ := shC_ok (n := n) (h := a / 10) (a := 0) (s := 0) (x := e % 10) (c := e / 100) hgv (lwok hlw) dC n5 (by omega) (by omega) (by omega) g1 (by omega) hd
  obtain ⟨σ2, q4, q5, q6⟩ := shC_ok (n := n) (h := a % 10) (a := 0) (s := 0) (x := e % 10) (c := e / 100) q3 (lwok_T q2 (lwok hlw)) (by rw [mT_get q2 rfl]; exact dC) n5 (by omega) (by omega) (by omega) g1 (by omega) hd
  obtain ⟨σ3, w1, w2⟩ := thM_by hlw dM (by omega) n5 (show a / 10 < 4 by omega) (nI (e / 100)) (nI (e / 10 % 10)) (nI (e % 10))
  obtain ⟨σ4, w3, w4⟩ := thM_by (σc := σc) (R_lw_fr hlw rfl (mM_G w2)) (by rw [mG_get w2 rfl]; exact dM) (by omega) n5 (show a % 10 < 4 by omega) (nI (e / 100)) (nI (e / 10 % 10)) (nI (e % 10))
  rw [tw_T q2] at q4
  have le1 := thv_le (n := n) (T := tw σc (a / 10)) (y1 := nI (e / 100)) (y2 := nI (e / 10 % 10)) (y3 := nI (e % 10)) (fun a r c d x => twV_le _ _ _ _ _ _ _ _ _) (by omega) n5
  have le2 := thv_le (n := n) (T := tw σc (a % 10)) (y1 := nI (e / 100)) (y2 := nI (e / 10 % 10)) (y3 := nI (e % 10)) (fun a r c d x => twV_le _ _ _ _ _ _ _ _ _) (by omega) n5
  rw [thv_sc (by omega) n5] at w1 w3
  have r1 := vv (n - 1) (a / 10)
  have r2 := vv (n - 1) (a % 10)
  have q1' : fX1_shareOf (nI (a / 10)) 0 0 (nI (e / 100)) (nI (e / 10 % 10)) (nI (e % 10)) σc = some (lN (thv (n - 1) n (tw σc (a / 10)) (nI (e / 100)) (nI (e / 10 % 10)) (nI (e % 10))), σ1) := by rw [r1]; exact q1
  have q4' : fX1_shareOf (nI (a % 10)) 0 0 (nI (e / 100)) (nI (e / 10 % 10)) (nI (e % 10)) σ1 = some (lN (thv (n - 1) n (tw σc (a % 10)) (nI (e / 100)) (nI (e / 10 % 10)) (nI (e % 10))), σ2) := by rw [r2]; exact q4
  rw [q1', Option.bind_some]
  dsimp only
  rw [q4', Option.bind_some]
  unfold fX10_apart_b89
  rw [if_neg pu_10, ed, er, e100, em, w1, Option.bind_some]
  dsimp only
  rw [w3, Option.bind_some]
  dsimp only
  generalize thv (n - 1) n (tw σc (a / 10)) (nI (e / 100)) (nI (e / 10 % 10)) (nI (e % 10)) = G at le1
  generalize thv (n - 1) n (tw σc (a % 10)) (nI (e / 100)) (nI (e / 10 % 10)) (nI (e % 10)) = H at le2
  have p1' : 12 ^ (n - 1) ≤ 12 ^ 4 := Nat.pow_le_pow_right (by omega) (by omega)
  have p2 : ∀ v, v ≤ 12 ^ (n - 1) → 12 ^ (5 - n) * v ≤ 12 ^ 4 := fun v hv => by
    have := Nat.mul_le_mul_left (12 ^ (5 - n)) hv
    rw [← Nat.pow_add, show 5 - n + (n - 1) = 4 by omega] at this
    exact this
  have hK : 0 < 12 ^ (5 - n) := Nat.pow_pos (by decide)
  have hM := tt_M (σ := σ4) (p2 G le1) (p2 H le2) 4 0 ab_N (by omega) (by rw [pu_N]; omega)
  have hC := tt_C (G := G) (H := H) (by omega) (by omega) 4 0 ab_N (by omega) (by rw [pu_N]; omega)
  rw [ttl_sc hK, Nat.pow_zero, Nat.pow_zero, Nat.mul_one] at hM
  rw [Nat.pow_zero, Nat.pow_zero, Nat.mul_one] at hC
  have hM' : fX10_apart_b153 ab_N (lN (12 ^ (5 - n) * G)) (lN (12 ^ (5 - n) * H)) 1 12 1 σ4 = _ := hM
  have hC' : fX9_timesTill_b20 ab_N (lN G) (lN H) 1 12 1 = _ := hC
  have hR := Rel_fr hh0 (mB_T (q5.trans q2)) (mM_G (w4.trans w2)) q6
  unfold fX9_timesTill
  rw [hM', hC']
  by_cases hz : G = 0
  · rw [if_pos ((pu_l0 (by omega)).mpr hz), if_pos (by rw [hz, Nat.mul_zero])]
    exact ⟨-2, σ2, σ4, rfl, rfl, hR⟩
  · rw [if_neg (fun z => hz ((pu_l0 (by omega)).mp z)), if_neg (fun z => (Nat.mul_eq_zero.mp z).elim (by omega) hz)]
    exact ⟨_, σ2, σ4, rfl, rfl, hR⟩
end
