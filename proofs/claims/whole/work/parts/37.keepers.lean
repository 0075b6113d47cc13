/-! PURE, 7: taken, image, back -/
def abv (k : Nat) : Nat := if k = 3 then 2 else if k = 4 then 1 else if k = 5 then 3 else if k = 7 then 4 else 0
def und (kd k : Nat) : Bool := decide (kd = k) || (decide (abv kd = k) || (decide (abv (abv kd) = k) || decide (abv (abv (abv kd)) = k)))
theorem tk_irr : ∀ (f : Nat) (v2 v3 v4 : Int32) (σ σ' : ab_S), fX0_isUnder_b9 f v2 v3 v4 σ = fX0_isUnder_b9 f v2 v3 v4 σ'
  | 0, _, _, _, _, _ => rfl
  | f + 1, v2, v3, v4, σ, σ' => by
    show fX0_isUnder_b9_o _ _ _ _ _ = fX0_isUnder_b9_o _ _ _ _ _
    unfold fX0_isUnder_b9_o fX0_isUnder_b42
    simp only [tk_irr f _ _ _ σ σ']
def σ00 : ab_S := (fun _ _ _ => 0, fun _ _ _ => 0)
theorem tk_u0 : ∀ kd, kd < 8 → ∀ k, k < 8 → fX0_isUnder_b9 20 (nI k) (nI kd) 0 σ00 = some (if und kd k then 1 else 0) := by decide +kernel
theorem tk_mono : ∀ (f : Nat) (v2 v3 v4 : Int32) (σ : ab_S) (r : Int32), fX0_isUnder_b9 f v2 v3 v4 σ = some r → fX0_isUnder_b9 (f + 1) v2 v3 v4 σ = some r
  | 0, _, _, _, _, _, h => by cases h
  | f + 1, v2, v3, v4, σ, r, h => by
    have h' : fX0_isUnder_b9_o (fX0_isUnder_b9 f) v2 v3 v4 σ = some r := h
    show fX0_isUnder_b9_o (fX0_isUnder_b9 (f + 1)) v2 v3 v4 σ = some r
    unfold fX0_isUnder_b9_o at h' ⊢
    by_cases c1 : 8 ≤ v4
    · rw [if_pos c1] at h' ⊢
      exact h'
    · rw [if_neg c1] at h' ⊢
      cases hk : fX0_isKind v3 with
      | none => rw [hk] at h'; cases h'
      | some q =>
        rw [hk] at h'
        simp only [Option.bind_some] at h' ⊢
        by_cases c2 : q = 0
        · rw [if_pos c2] at h' ⊢
          exact h'
        · rw [if_neg c2] at h' ⊢
          by_cases c3 : v3 = v2
          · rw [if_pos c3] at h' ⊢
            exact h'
          · rw [if_neg c3] at h' ⊢
            by_cases c4 : ab_inb v3 8 = true
            · rw [if_pos c4] at h' ⊢
              exact tk_mono f _ _ _ _ _ h'
            · rw [if_neg c4] at h'
              cases h'
theorem tk_mono2 (v2 v3 v4 : Int32) (σ : ab_S) (r : Int32) : ∀ (k f : Nat), fX0_isUnder_b9 f v2 v3 v4 σ = some r → fX0_isUnder_b9 (f + k) v2 v3 v4 σ = some r
  | 0, _, h => h
  | k + 1, f, h => tk_mono (f + k) _ _ _ _ _ (tk_mono2 v2 v3 v4 σ r k f h)
theorem tk_u {kd k : Nat} (h1 : kd < 8) (h2 : k < 8) (σ : ab_S) : fX0_isUnder_b9 ab_N (nI k) (nI kd) 0 σ = some (if und kd k then 1 else 0) := by
  rw [tk_irr ab_N _ _ _ σ σ00]
  exact tk_mono2 _ _ _ _ _ 1004 20 (tk_u0 kd h1 k h2)
theorem tk_abv : ∀ kd, kd < 8 → fX10_above (nI kd) = some (nI (abv kd)) ∧ abv kd < 8 := by decide +kernel
theorem tk_step {v1 : Int32} {σ : ab_S} {kd k f : Nat} (h1 : kd < 8) (h2 : k < 8) : fX10_taken_b58 (f + 1) v1 (nI k) (nI kd) σ = if kd = k ∨ kd = 0 then fX10_taken_b75 v1 (nI k) (nI kd) σ else fX10_taken_b58 f v1 (nI k) (nI (abv kd)) σ := by
  show fX10_taken_b58_o _ _ _ _ _ = _
  unfold fX10_taken_b58_o
  by_cases e : kd = k
  · rw [if_pos (by rw [e]), if_pos (Or.inl e)]
  · rw [if_neg (pu_ne e)]
    by_cases e0 : kd = 0
    · rw [if_pos (by rw [e0]; decide), if_pos (Or.inr e0)]
    · rw [if_neg (fun z => by
        rw [Int32.le_iff_toInt_le, nI_toInt (by omega), Int32.toInt_zero] at z
        omega), (tk_abv kd h1).1, Option.bind_some, if_neg (by omega)]
theorem tk_d1 : ∀ kd, kd < 8 → ∀ k, k < 8 → (kd = k ∨ kd = 0) → decide (kd = k) = und kd k := by decide +kernel
theorem tk_d2 : ∀ kd, kd < 8 → ∀ k, k < 8 → ¬ (kd = k ∨ kd = 0) → (abv kd = k ∨ abv kd = 0) → decide (abv kd = k) = und kd k := by decide +kernel
theorem tk_d3b : ∀ kd, kd < 8 → ∀ k, k < 8 → (decide (kd = k ∨ kd = 0) || (decide (abv kd = k ∨ abv kd = 0) || (!decide (abv (abv kd) = k ∨ abv (abv kd) = 0) || (decide (abv (abv kd) = k) == und kd k)))) = true := by decide +kernel
theorem tk_d4b : ∀ kd, kd < 8 → ∀ k, k < 8 → (decide (kd = k ∨ kd = 0) || (decide (abv kd = k ∨ abv kd = 0) || (decide (abv (abv kd) = k ∨ abv (abv kd) = 0) || (decide (abv (abv (abv kd)) = k) == und kd k)))) = true := by decide +kernel
theorem tk_d3 : ∀ kd, kd < 8 → ∀ k, k < 8 → ¬ (kd = k ∨ kd = 0) → ¬ (abv kd = k ∨ abv kd = 0) → (abv (abv kd) = k ∨ abv (abv kd) = 0) → decide (abv (abv kd) = k) = und kd k := fun kd h1 k h2 e1 e2 e3 => by
  have := tk_d3b kd h1 k h2
  rw [decide_eq_false e1, decide_eq_false e2, decide_eq_true e3] at this
  simpa using this
theorem tk_d4 : ∀ kd, kd < 8 → ∀ k, k < 8 → ¬ (kd = k ∨ kd = 0) → ¬ (abv kd = k ∨ abv kd = 0) → ¬ (abv (abv kd) = k ∨ abv (abv kd) = 0) → decide (abv (abv (abv kd)) = k) = und kd k := fun kd h1 k h2 e1 e2 e3 => by
  have := tk_d4b kd h1 k h2
  rw [decide_eq_false e1, decide_eq_false e2, decide_eq_false e3] at this
  simpa using this
theorem tk_z : ∀ kd, kd < 8 → abv (abv (abv kd)) = 0 := by decide +kernel
theorem tk_m {v1 : Int32} {σ : ab_S} {kd k : Nat} (h1 : kd < 8) (h2 : k < 8) : ∃ j, j < 8 ∧ fX10_taken_b58 ab_N v1 (nI k) (nI kd) σ = fX10_taken_b75 v1 (nI k) (nI j) σ ∧ decide (j = k) = und kd k := by
  have a1 := (tk_abv kd h1).2
  have a2 := (tk_abv _ a1).2
  have a3 := (tk_abv _ a2).2
  have z : abv (abv (abv kd)) = 0 := tk_z kd h1
  rw [show ab_N = 1020 + 1 + 1 + 1 + 1 from rfl, tk_step h1 h2]
  by_cases e1 : kd = k ∨ kd = 0
  · rw [if_pos e1]
    exact ⟨kd, h1, rfl, tk_d1 kd h1 k h2 e1⟩
  rw [if_neg e1, tk_step a1 h2]
  by_cases e2 : abv kd = k ∨ abv kd = 0
  · rw [if_pos e2]
    exact ⟨_, a1, rfl, tk_d2 kd h1 k h2 e1 e2⟩
  rw [if_neg e2, tk_step a2 h2]
  by_cases e3 : abv (abv kd) = k ∨ abv (abv kd) = 0
  · rw [if_pos e3]
    exact ⟨_, a2, rfl, tk_d3 kd h1 k h2 e1 e2 e3⟩
  rw [if_neg e3, tk_step a3 h2, if_pos (Or.inr z)]
  exact ⟨_, a3, rfl, tk_d4 kd h1 k h2 e1 e2 e3⟩
section
variable {i : Nat} {σc σm : ab_S}
theorem pp_taken (h : Rel i σc σm) (hi : i ≤ 3072) (a0 : Int32) (a1 : Int32) : ∃ (r : Int32), fX9_taken a0 a1 σc = some r ∧ fX10_taken a0 a1 σm = some r ∧ Rel (i + 6) σc σm := by
  have h0 := Rel_mono h
  obtain ⟨n, b, n2, n5, hst, hev, him, hch, htp, hlw, hgv, hbs, hbd, hsh⟩ := h
  obtain ⟨b50, k1, k2, kk, k3, k4⟩ := id hbd
  unfold fX9_taken fX10_taken fX9_taken_b18 fX10_taken_b19 fX9_taken_b77 fX9_taken_b79
  rcases pu_ix a0 6 (by omega) with hx | ⟨d, hd, rfl⟩
  · rw [pu_hasS_no hx, pu_isShelf_no hx]
    exact ⟨-1, rfl, rfl, h0⟩
  rw [pu_hasS_yes hd, pu_isShelf_yes hd]
  rcases pu_ix a1 8 (by omega) with hx | ⟨k, hk, rfl⟩
  · rw [pu_isKind_no hx, show fX10_within a1.toInt64 0 7 = some 0 from pu_wi_no (lo := 0) (hi := 7) (pu_ixr hx)]
    exact ⟨-1, rfl, rfl, h0⟩
  rw [pu_isKind_yes hk, show fX10_within (nI k).toInt64 0 7 = some 1 from pu_wi_yes (lo := 0) (hi := 7) (by omega) (by omega)]
  unfold fX6_bodyOn fX6_bodyOn_b28 fX6_bodyOn_b29
  rw [pu_hasS_yes hd]
  simp only [Option.bind_some, pu_10, ↓reduceIte, inb_nI hd, cl_nI (d := d) (by omega)]
  rcases hsh d hd with ⟨q1, q2⟩ | ⟨j, hj, q1, q2, q3⟩ | ⟨s, m, hs, hm, q1, q2, q3, q4, q5⟩
  · rw [sh_isEmpty_yes hd q1, q2]
    exact ⟨-11, rfl, rfl, h0⟩
  · rw [sh_isEmpty_no hd (by rw [q1]; decide), q1, q2, q3, if_pos (pr_le (b := 0) (by omega)), if_pos (pl_lt (b := 50) (by omega))]
    obtain ⟨⟨kd, hkd, y1⟩, y2⟩ := kk j hj
    unfold fX0_isUnder fX0_kindOf fX0_kindOf_b18 fX0_has fX0_has_b22 fX0_has_b23 fX10_kindOf
    simp only [Option.bind_some, ↓reduceIte]
    rw [k1, if_neg pu_n1l, if_neg (pu_nle hj), if_neg (pr_nle (b := 50) (by omega))]
    simp only [Option.bind_some, pu_10, ↓reduceIte, inb_nI (show j < 50 by omega), cl_nI (d := j) (by omega), isb1, y1, y2, tk_u hkd hk]
    obtain ⟨x, hx, w1, w2⟩ := tk_m (v1 := nI d) (σ := σm) hkd hk
    rw [w1, ← w2]
    unfold fX10_taken_b75 fX10_taken_b95 fX10_kindOf
    by_cases hxk : x = k
    · rw [if_pos (show nI x = nI k by rw [hxk]), decide_eq_true hxk]
      simp only [inb_nI hd, cl_nI (d := d) (by omega), ↓reduceIte, q3, inb_nI (show j < 50 by omega), cl_nI (d := j) (by omega), y2, y1, Option.bind_some, pu_10]
      exact ⟨_, rfl, rfl, h0⟩
    · rw [if_neg (pu_ne hxk), decide_eq_false hxk]
      exact ⟨-12, rfl, rfl, h0⟩
  · rw [sh_isEmpty_no hd (by rw [q1]; exact pu_n1), q1, q2, if_pos (pr_le (b := 0) (by omega)), if_neg (pl_nlt (b := 50) (by omega)), if_neg (show ¬ nI s = -2 from fun z => by
      have := nI_toInt (n := s) (by omega)
      rw [z, show (-2 : Int32).toInt = -2 from rfl] at this
      omega)]
    exact ⟨-12, rfl, rfl, h0⟩
theorem pp_image (h : Rel i σc σm) (hi : i ≤ 3072) : ∃ (r : Int32) (σc1 : ab_S) (σm1 : ab_S), fX9_image σc = some (r, σc1) ∧ fX10_image σm = some (r, σm1) ∧ Rel (i + 6) σc1 σm1 := by
  obtain ⟨n, b, n2, n5, hst, hev, him, hch, htp, hlw, hgv, hbs, hbd, hsh⟩ := h
  obtain ⟨k, hk, e1, -⟩ := him
  obtain ⟨⟨t, c, ht, hc, q1, q2, q3, q4, q5, hh⟩, l1, l2, l3⟩ := id hev
  refine ⟨nI t, ?σc1, ?σm1, ?C, ?M, ?R⟩
  case σc1 => exact ab_si (ab_si (ab_si (ab_si (ab_ci (ab_ci (ab_ci σc 6 0 0 10 0 0 3) 7 0 0 11 0 0 3) 8 0 0 12 0 0 3) 9 0 3 (σc.1 5 0 3)) 9 0 4 (σc.1 5 0 4)) 9 0 5 (σc.1 5 0 5)) 0 0 3 1
  case σm1 =>
    exact ab_si (ab_si (ab_si (ab_si (ab_si (ab_si (ab_si (ab_si (ab_si (ab_si (ab_si (ab_si (ab_si σm 0 0 28 1) 0 0 29 (σm.1 0 0 7)) 0 0 30 (σm.1 0 0 8)) 0 0 31 (σm.1 0 0 9)) 15 0 0 (σm.1 5 0 0)) 16 0 0 (σm.1 6 0 0)) 17 0 0 (σm.1 14 0 0)) 15 0 1 (σm.1 5 0 1)) 16 0 1 (σm.1 6 0 1)) 17 0 1 (σm.1 14 0 1)) 15 0 2 (σm.1 5 0 2)) 16 0 2 (σm.1 6 0 2)) 17 0 2 (σm.1 14 0 2)
  case C =>
    unfold fX9_image fX4_become_r9_5
    rw [← q1]
    rfl
  case M =>
    rw [← q2]
    rfl
  case R =>
    refine ⟨n, b, n2, n5, hst, hev, ⟨k, by omega, e1, Or.inr ⟨rfl, rfl, e1, ⟨t, c, ht, hc, q1, q2, q3, q4, ?_, fun a ha => ?_⟩, l1, l2, l3⟩⟩, hch, htp, hlw, hgv, R_bs_mono hbs, hbd, hsh⟩
    · show σc.1 5 0 5 = _
      rw [q5]
      congr 1
      refine opN_congr t (fun a ha => ?_)
      rcases (show a = 0 ∨ a = 1 ∨ a = 2 by omega) with rfl | rfl | rfl <;> rfl
    · have := hh a ha
      rcases (show a = 0 ∨ a = 1 ∨ a = 2 by omega) with rfl | rfl | rfl
      · exact this
      · refine ⟨this.1, this.2.1, this.2.2.1, ?_⟩
        rcases this.2.2.2 with z | ⟨d, z1, z2, z3, z4⟩
        · exact Or.inl z
        · exact Or.inr ⟨d, z1, z2, z3, z4⟩
      · refine ⟨this.1, this.2.1, this.2.2.1, ?_⟩
        rcases this.2.2.2 with z | ⟨d, z1, z2, z3, z4⟩
        · exact Or.inl z
        · exact Or.inr ⟨d, z1, z2, z3, z4⟩
end
