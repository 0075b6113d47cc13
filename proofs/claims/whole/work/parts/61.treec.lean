/-! PURE, 30: acts to come, the class -/
def frC (σ0 σ : ab_S) (b : Nat) : Prop := mI σ = mI σ0 ∧ R_gv σ ∧ (∀ r, r ≠ 29 → r ≠ 31 → σ.2 r = σ0.2 r) ∧ (∀ y, y ≤ b → σ.2 29 y = σ0.2 29 y) ∧ (∀ y, y < b → σ.2 31 y = σ0.2 31 y)
theorem frC_rfl {σ : ab_S} {b : Nat} (h : R_gv σ) : frC σ σ b := ⟨rfl, h, fun _ _ _ => rfl, fun _ _ => rfl, fun _ _ => rfl⟩
theorem frC_tr {σ0 σ1 σ2 : ab_S} {b b' : Nat} (h : frC σ0 σ1 b) (h' : frC σ1 σ2 b') (hb : b ≤ b') : frC σ0 σ2 b :=
  ⟨h'.1.trans h.1, h'.2.1, fun r hr hr' => (h'.2.2.1 r hr hr').trans (h.2.2.1 r hr hr'), fun y hy => (h'.2.2.2.1 y (by omega)).trans (h.2.2.2.1 y hy), fun y hy => (h'.2.2.2.2 y (by omega)).trans (h.2.2.2.2 y hy)⟩
def EnC (n A h : Nat) (T : Nat → Nat → Nat → Nat → Nat → Nat) (σ : ab_S) : Prop := σ.1 1 0 3 = nI n ∧ σ.1 1 0 5 = nI A ∧ LwOK σ ∧ R_gv σ ∧ tw σ h = T
theorem EnC_fr {n A h b : Nat} {T : Nat → Nat → Nat → Nat → Nat → Nat} {σ0 σ : ab_S} (h0 : EnC n A h T σ0) (hf : frC σ0 σ b) : EnC n A h T σ :=
  ⟨by rw [mI_get hf.1 rfl]; exact h0.1, by rw [mI_get hf.1 rfl]; exact h0.2.1, lwok_I hf.1 h0.2.2.1, hf.2.1, by rw [tw_I hf.1]; exact h0.2.2.2.2⟩
theorem lo_C {n s c : Nat} {σ : ab_S} (hn : σ.1 1 0 3 = nI n) (n5 : n ≤ 5) (hs : s < 32) (hc : c < n) : ∀ (k j fuel : Nat), j + k = n → k < fuel → fX7_leastOther_b2 fuel (nI s) (nI c) (nI j) σ = some (nI (lo s c k j)) := by
  intro k
  induction k with
  | zero =>
    intro j fuel h1 h2
    obtain ⟨f, rfl⟩ : ∃ f, fuel = f + 1 := ⟨fuel - 1, by omega⟩
    show fX7_leastOther_b2_o _ _ _ _ _ = _
    unfold fX7_leastOther_b2_o
    rw [hn, if_pos (pu_le (by omega))]
    rfl
  | succ k ih =>
    intro j fuel h1 h2
    obtain ⟨f, rfl⟩ : ∃ f, fuel = f + 1 := ⟨fuel - 1, by omega⟩
    show fX7_leastOther_b2_o _ _ _ _ _ = _
    unfold fX7_leastOther_b2_o fX7_leastOther_b25 lo
    rw [hn, if_neg (pu_nle (by omega)), nI_1]
    by_cases hjc : j = c
    · rw [if_pos (by rw [hjc]), if_neg (by rw [hjc]; simp [el])]
      exact ih (j + 1) f (by omega) (by omega)
    · rw [if_neg (pu_ne hjc), pu_isInC s hs j (by omega), Option.bind_some, el_isIn hjc]
      cases s.testBit j with
      | true =>
        simp only [pu_10, ↓reduceIte, Bool.not_true, Bool.false_eq_true]
        exact ih (j + 1) f (by omega) (by omega)
      | false => simp
theorem leC {n s c : Nat} {σ : ab_S} (hn : σ.1 1 0 3 = nI n) (n5 : n ≤ 5) (hs : s < 32) (hc : c < n) : fX7_leastOther (nI s) (nI c) σ = some (nI (lo s c n 0)) :=
  lo_C hn n5 hs hc n 0 ab_N (by omega) (by rw [pu_N]; omega)
/-- some of them is not nought -/
def fnd (q : Nat → Nat) : Nat → Bool
  | 0 => false
  | j + 1 => fnd q j || decide (q j ≠ 0)
theorem fnd_0 {q : Nat → Nat} : ∀ j, fnd q j = false → ∀ x, x < j → q x = 0
  | 0, _, x, hx => by omega
  | j + 1, h, x, hx => by
    have h' : (fnd q j || decide (q j ≠ 0)) = false := h
    rw [Bool.or_eq_false_iff] at h'
    by_cases e : x = j
    · subst e
      have := of_decide_eq_false h'.2
      omega
    · exact fnd_0 j h'.1 x (by omega)
section
variable {n A h a c s : Nat} {T : Nat → Nat → Nat → Nat → Nat → Nat}
theorem look_L {σ0 : ab_S} {P : Nat → Nat} {D wh : Nat} (hE : EnC n A h T σ0) (n5 : n ≤ 5) (hh : h < 4) (ha : a < 3) (hc : c < n) (hs : s < 32) (hD : D < n) (hT : ∀ a r c d x, T a r c d x ≤ 12) (hP : ∀ x, x < n → P x < 2 ^ 63) (hP0 : ∀ x, x < n → σ0.2 31 a x = lN (P x)) : ∀ (k x fuel : Nat) (σ : ab_S), x + k = n → k < fuel → frC σ0 σ a → (∀ y, y < x → σ.2 29 (a + 1) y = lN (P y * T a (pc s) c D y * wh) ∧ σ.2 31 a y = lN (P y * (12 - T a (pc s) c D y))) → (∀ y, x ≤ y → y < n → σ.2 31 a y = lN (P y)) →
    ∃ σ', fX1_look_b30 fuel h (nI a) (nI c) (nI D) (lN wh) (nI (pc s)) a (a + 1) (if fnd (fun y => P y * T a (pc s) c D y) x = true then 1 else 0) (nI x) σ = some (if fnd (fun y => P y * T a (pc s) c D y) n = true then 1 else 0, σ') ∧ frC σ0 σ' a ∧ (∀ y, y < n → σ'.2 29 (a + 1) y = lN (P y * T a (pc s) c D y * wh) ∧ σ'.2 31 a y = lN (P y * (12 - T a (pc s) c D y))) := by
  intro k
  induction k with
  | zero =>
    intro x fuel σ h1 h2 hf hy hy2
    obtain ⟨f, rfl⟩ : ∃ f, fuel = f + 1 := ⟨fuel - 1, by omega⟩
    refine ⟨σ, ?_, hf, fun y h => hy y (by omega)⟩
    show fX1_look_b30_o _ _ _ _ _ _ _ _ _ _ _ _ = _
    unfold fX1_look_b30_o
    rw [(EnC_fr hE hf).1, if_pos (pu_le (by omega)), show x = n by omega]
    cases fnd (fun y => P y * T a (pc s) c D y) n <;> rfl
  | succ k ih =>
    intro x fuel σ h1 h2 hf hy hy2
    obtain ⟨f, rfl⟩ : ∃ f, fuel = f + 1 := ⟨fuel - 1, by omega⟩
    have hEs := EnC_fr hE hf
    show ∃ σ', fX1_look_b30_o (fX1_look_b30 f) _ _ _ _ _ _ _ _ _ _ σ = some (_, σ') ∧ _
    unfold fX1_look_b30_o fX1_look_b88 fX1_look_b116
    have st : fnd (fun y => P y * T a (pc s) c D y) (x + 1) = (fnd (fun y => P y * T a (pc s) c D y) x || decide (P x * T a (pc s) c D x ≠ 0)) := rfl
    have px := hP x (by omega)
    have p31 := hy2 x (Nat.le_refl _) (by omega)
    rw [hEs.1, if_neg (pu_nle (by omega)), if_pos (inb_nI (by omega)), if_pos (inb_nI (by omega)), pu_k, cl_nI (by omega), p31, nI_1]
    have fr5 : frC σ0 (ab_sl σ 29 (a + 1) x 0) a := ⟨hf.1, hf.2.1, fun r hr hr' => by rw [pu_slR hr]; exact hf.2.2.1 r hr hr', fun y hy => by rw [pu_slK (by omega)]; exact hf.2.2.2.1 y hy, fun y hy => by rw [pu_slR (by omega)]; exact hf.2.2.2.2 y hy⟩
    by_cases hz : P x = 0
    · rw [if_pos ((pu_l0 px).mpr hz)]
      rw [hz, Nat.zero_mul, show decide ((0 : Nat) ≠ 0) = false from rfl, Bool.or_false] at st
      have := ih (x + 1) f (ab_sl σ 29 (a + 1) x 0) (by omega) (by omega) fr5 (fun y hyx => by
        by_cases e : y = x
        · subst e
          refine ⟨?_, ?_⟩
          · rw [pu_slE, hz, Nat.zero_mul, Nat.zero_mul]; rfl
          · rw [pu_slR (by omega), p31, hz, Nat.zero_mul]
        · rw [pu_slJ e, pu_slR (show (31 : Nat) ≠ 29 by omega)]
          exact hy y (by omega)) (fun y h1 h2 => by rw [pu_slR (by omega)]; exact hy2 y (by omega) h2)
      rw [st] at this
      exact this
    · rw [if_neg (fun z => hz ((pu_l0 px).mp z))]
      obtain ⟨σ1, q1, q2, q3⟩ := tw_ok (σ := ab_sl σ 29 (a + 1) x 0) hEs.2.2.2.1 hEs.2.2.1 hh (show a ≤ 3 by omega) (pu_pcC s hs).2 (show c < 5 by omega) (show D < 5 by omega) (show x < 5 by omega)
      have e1 : tw (ab_sl σ 29 (a + 1) x 0) h = T := hEs.2.2.2.2
      rw [e1] at q1
      have tl := hT a (pc s) c D x
      rw [q1, Option.bind_some]
      dsimp only
      simp only [inb_nI (show x < 5 by omega), ↓reduceIte, pu_k]
      rw [nI_l (by omega), pu_12 tl, lN_mul, lN_mul, lN_mul]
      have t2 := T_2 q2
      have frn : ∀ v v', frC σ0 (ab_sl (ab_sl σ1 29 (a + 1) x v) 31 a x v') a := fun v v' => ⟨(mI_T q2).trans hf.1, q3, fun r hr hr' => by rw [pu_slR hr', pu_slR hr, t2, pu_slR hr]; exact hf.2.2.1 r hr hr', fun y hy => by rw [pu_slR (by omega), pu_slK (by omega), t2, pu_slK (by omega)]; exact hf.2.2.2.1 y hy, fun y hy => by rw [pu_slK (by omega), pu_slR (by omega), t2, pu_slR (by omega)]; exact hf.2.2.2.2 y hy⟩
      have nx := ih (x + 1) f (ab_sl (ab_sl σ1 29 (a + 1) x (lN (P x * T a (pc s) c D x * wh))) 31 a x (lN (P x * (12 - T a (pc s) c D x)))) (by omega) (by omega) (frn _ _) (fun y hyx => by
        by_cases e : y = x
        · subst e
          refine ⟨?_, pu_slE⟩
          rw [pu_slR (by omega), pu_slE]
        · refine ⟨?_, ?_⟩
          · rw [pu_slR (show (29 : Nat) ≠ 31 by omega), pu_slJ e, t2, pu_slJ e]
            exact (hy y (by omega)).1
          · rw [pu_slJ e, pu_slR (show (31 : Nat) ≠ 29 by omega), t2, pu_slR (show (31 : Nat) ≠ 29 by omega)]
            exact (hy y (by omega)).2) (fun y h1 h2 => by rw [pu_slJ (by omega), pu_slR (by omega), t2, pu_slR (by omega)]; exact hy2 y (by omega) h2)
      by_cases hg : T a (pc s) c D x = 0
      · rw [if_pos (by rw [hg]; rfl)]
        rw [show decide (P x * T a (pc s) c D x ≠ 0) = false by rw [hg, Nat.mul_zero]; rfl, Bool.or_false] at st
        rw [st] at nx
        exact nx
      · rw [if_neg (pu_n0 (by omega) (by omega))]
        have : P x * T a (pc s) c D x ≠ 0 := fun z => (Nat.mul_eq_zero.mp z).elim hz hg
        rw [decide_eq_true this, Bool.or_true] at st
        rw [st, if_pos rfl] at nx
        exact nx
theorem pass_L {σ0 : ab_S} {P : Nat → Nat} {wh : Nat} (hE : EnC n A h T σ0) (n5 : n ≤ 5) (ha : a < 3) (hP : ∀ x, x < n → P x * wh < 2 ^ 63) : ∀ (k x fuel : Nat) (σ : ab_S), x + k = n → k < fuel → frC σ0 σ a → (∀ y, y < x → σ.2 29 (a + 1) y = lN (P y * wh)) → (∀ y, y < n → σ.2 31 a y = lN (P y)) →
    ∃ σ', fX1_pass_b6 fuel (nI a) (lN wh) (if fnd (fun y => P y * wh) x = true then 1 else 0) (nI x) σ = some (if fnd (fun y => P y * wh) n = true then 1 else 0, σ') ∧ frC σ0 σ' a ∧ (∀ y, y < n → σ'.2 29 (a + 1) y = lN (P y * wh)) := by
  intro k
  induction k with
  | zero =>
    intro x fuel σ h1 h2 hf hy hy2
    obtain ⟨f, rfl⟩ : ∃ f, fuel = f + 1 := ⟨fuel - 1, by omega⟩
    refine ⟨σ, ?_, hf, fun y h => hy y (by omega)⟩
    show fX1_pass_b6_o _ _ _ _ _ _ = _
    unfold fX1_pass_b6_o
    rw [(EnC_fr hE hf).1, if_pos (pu_le (by omega)), show x = n by omega]
    cases fnd (fun y => P y * wh) n <;> rfl
  | succ k ih =>
    intro x fuel σ h1 h2 hf hy hy2
    obtain ⟨f, rfl⟩ : ∃ f, fuel = f + 1 := ⟨fuel - 1, by omega⟩
    have hEs := EnC_fr hE hf
    show ∃ σ', fX1_pass_b6_o (fX1_pass_b6 f) _ _ _ _ σ = some (_, σ') ∧ _
    unfold fX1_pass_b6_o fX1_pass_b59
    have st : fnd (fun y => P y * wh) (x + 1) = (fnd (fun y => P y * wh) x || decide (P x * wh ≠ 0)) := rfl
    have px := hP x (by omega)
    rw [hEs.1, if_neg (pu_nle (by omega)), nI_1, nI_1, if_pos (inb_nI (by omega)), if_pos (inb_nI (by omega)), if_pos (inb_nI (by omega)), if_pos (inb_nI (by omega)), pu_k, cl_nI (by omega), cl_nI (by omega), cl_nI (by omega), hy2 x (by omega), lN_mul, if_pos (inb_nI (by omega)), if_pos (inb_nI (by omega)), pu_slE]
    have fr5 : frC σ0 (ab_sl σ 29 (a + 1) x (lN (P x * wh))) a := ⟨hf.1, hf.2.1, fun r hr hr' => by rw [pu_slR hr]; exact hf.2.2.1 r hr hr', fun y hy => by rw [pu_slK (by omega)]; exact hf.2.2.2.1 y hy, fun y hy => by rw [pu_slR (by omega)]; exact hf.2.2.2.2 y hy⟩
    have nx := ih (x + 1) f (ab_sl σ 29 (a + 1) x (lN (P x * wh))) (by omega) (by omega) fr5 (fun y hyx => by
      by_cases e : y = x
      · subst e; exact pu_slE
      · rw [pu_slJ e]; exact hy y (by omega)) (fun y h => by rw [pu_slR (by omega)]; exact hy2 y h)
    by_cases hz : P x * wh = 0
    · rw [if_pos ((pu_l0 px).mpr hz)]
      rw [show decide (P x * wh ≠ 0) = false by rw [hz]; rfl, Bool.or_false] at st
      rw [st] at nx
      exact nx
    · rw [if_neg (fun z => hz ((pu_l0 px).mp z))]
      rw [decide_eq_true hz, Bool.or_true] at st
      rw [st, if_pos rfl] at nx
      exact nx
end
