/-! PURE, 31: the host's and the guest's acts, the class -/
section
variable {n A h a c s way : Nat} {T : Nat → Nat → Nat → Nat → Nat → Nat} {w : Nat → Nat}
theorem ho_L {σ0 : ab_S} {M : Nat} {rc0 rc1 : Nat → Int32 → Int32 → Int32 → Int32 → ab_S → Option (Int64 × ab_S)} {G : Nat → Nat → (Nat → Nat) → Nat} (hE : EnC n A h T σ0) (n5 : n ≤ 5) (hh : h < 4) (ha : a < 3) (hc : c < n) (hs : s < 32) (hT : ∀ a r c d x, T a r c d x ≤ 12) (hM : M ≤ 12 ^ 9) (hw : ∀ x, x < n → w x ≤ M) (hz : ∀ s' w', (∀ x, x < n → w' x = 0) → G s' c w' = 0) (hrec : ∀ s' w' σ, s' < 32 → frC σ0 σ a → (∀ x, x < n → σ.2 29 (a + 1) x = lN (w' x)) → (∀ x, x < n → w' x ≤ M * 12 ^ 4) → ∃ σ', rc0 h (nI way) (nI (a + 1)) (nI s') (nI c) σ = some (lN (G s' c w'), σ') ∧ frC σ σ' (a + 1)) : ∀ (k j fuel : Nat) (σ : ab_S), j + k = n → k < fuel → frC σ0 σ a → (∀ x, x < n → σ.2 31 a x = lN (w x * pre (fun d => T a (pc s) c d x) c s j)) →
    ∃ σ', fX1_hostActs_b50 rc0 rc1 fuel h (nI way) (nI a) (nI s) (nI c) (lN (12 ^ (n - 1 - cnt c s j))) (lN (sm (fun D => if el c s D = true then G (s ||| 2 ^ D) c (fun x => w x * shD (n - 1) (fun d => T a (pc s) c d x) c s D) else 0) j)) (nI j) σ = some (lN (ac (n - 1) n T a s c w G), σ') ∧ frC σ0 σ' a := by
  have ple : ∀ j x, x < n → j ≤ n → w x * pre (fun d => T a (pc s) c d x) c s j ≤ M * 12 ^ 4 := fun j x hx hj => by
    refine Nat.mul_le_mul (hw x hx) (Nat.le_trans (pre_le j) (Nat.pow_le_pow_right (by decide) ?_))
    have h1 := cnt_mono (c := c) (s := s) (d := j) (n - j)
    rw [show j + (n - j) = n by omega] at h1
    have h2 := cnt_n (s := s) hc
    omega
  have p4 : 12 ^ (n - 1) ≤ 12 ^ 4 := Nat.pow_le_pow_right (by decide) (by omega)
  intro k
  induction k with
  | zero =>
    intro j fuel σ h1 h2 hf h31
    obtain ⟨f, rfl⟩ : ∃ f, fuel = f + 1 := ⟨fuel - 1, by omega⟩
    have hj : j = n := by omega
    subst hj
    have sn : ∀ x, w x * pre (fun d => T a (pc s) c d x) c s j * 12 ^ (j - 1 - cnt c s j) = w x * shN (j - 1) j (fun d => T a (pc s) c d x) c s := fun x => Nat.mul_assoc _ _ _
    have sl : ∀ x, x < j → w x * shN (j - 1) j (fun d => T a (pc s) c d x) c s ≤ M * 12 ^ 4 := fun x hx => Nat.mul_le_mul (hw x hx) (Nat.le_trans (shN_le (by have := cnt_n (s := s) hc; omega)) p4)
    obtain ⟨σ1, q1, q2, q3⟩ := pass_L (P := fun x => w x * pre (fun d => T a (pc s) c d x) c s j) (wh := 12 ^ (j - 1 - cnt c s j)) hE n5 ha (fun x hx => by
      have := sl x hx
      rw [sn]; omega) j 0 ab_N σ (by omega) (by rw [pu_N]; omega) hf (fun y hy => by omega) h31
    show ∃ σ', fX1_hostActs_b50_o rc0 rc1 (fX1_hostActs_b50 rc0 rc1 f) _ _ _ _ _ _ _ _ σ = some (_, σ') ∧ _
    unfold fX1_hostActs_b50_o fX1_hostActs_b167 fX1_pass
    have q1' : fX1_pass_b6 ab_N (nI a) (lN (12 ^ (j - 1 - cnt c s j))) 0 0 σ = _ := q1
    have q3' : ∀ y, y < j → σ1.2 29 (a + 1) y = lN (w y * shN (j - 1) j (fun d => T a (pc s) c d y) c s) := fun y hy => by rw [← sn]; exact q3 y hy
    rw [(EnC_fr hE hf).1, if_pos (pu_le (by omega)), q1', Option.bind_some]
    dsimp only
    cases hfn : fnd (fun y => w y * pre (fun d => T a (pc s) c d y) c s j * 12 ^ (j - 1 - cnt c s j)) j with
    | false =>
      have z0 := fnd_0 j hfn
      have gz : G s c (fun x => w x * shN (j - 1) j (fun d => T a (pc s) c d x) c s) = 0 := hz _ _ (fun x hx => by rw [← sn]; exact z0 x hx)
      simp only [Bool.false_eq_true, ↓reduceIte]
      refine ⟨σ1, ?_, q2⟩
      unfold ac
      rw [gz, Nat.add_zero]
    | true =>
      simp only [↓reduceIte, pu_10]
      obtain ⟨σ2, z1, z2⟩ := hrec s (fun x => w x * shN (j - 1) j (fun d => T a (pc s) c d x) c s) σ1 hs q2 q3' sl
      rw [nI_1, z1, Option.bind_some, lN_add]
      exact ⟨σ2, rfl, frC_tr q2 z2 (by omega)⟩
  | succ k ih =>
    intro j fuel σ h1 h2 hf h31
    obtain ⟨f, rfl⟩ : ∃ f, fuel = f + 1 := ⟨fuel - 1, by omega⟩
    show ∃ σ', fX1_hostActs_b50_o rc0 rc1 (fX1_hostActs_b50 rc0 rc1 f) _ _ _ _ _ _ _ _ σ = some (_, σ') ∧ _
    unfold fX1_hostActs_b50_o fX1_hostActs_b130
    have st : sm (fun D => if el c s D = true then G (s ||| 2 ^ D) c (fun x => w x * shD (n - 1) (fun d => T a (pc s) c d x) c s D) else 0) (j + 1) = sm (fun D => if el c s D = true then G (s ||| 2 ^ D) c (fun x => w x * shD (n - 1) (fun d => T a (pc s) c d x) c s D) else 0) j + (if el c s j = true then G (s ||| 2 ^ j) c (fun x => w x * shD (n - 1) (fun d => T a (pc s) c d x) c s j) else 0) := rfl
    have hct : cnt c s (j + 1) = if el c s j = true then cnt c s j + 1 else cnt c s j := rfl
    have hpr : ∀ x, pre (fun d => T a (pc s) c d x) c s (j + 1) = if el c s j = true then pre (fun d => T a (pc s) c d x) c s j * (12 - T a (pc s) c j x) else pre (fun d => T a (pc s) c d x) c s j := fun x => rfl
    have skip : el c s j = false → ∃ σ', fX1_hostActs_b50 rc0 rc1 f h (nI way) (nI a) (nI s) (nI c) (lN (12 ^ (n - 1 - cnt c s j))) (lN (sm (fun D => if el c s D = true then G (s ||| 2 ^ D) c (fun x => w x * shD (n - 1) (fun d => T a (pc s) c d x) c s D) else 0) j)) (nI (j + 1)) σ = some (lN (ac (n - 1) n T a s c w G), σ') ∧ frC σ0 σ' a := fun he => by
      have he' : ¬ el c s j = true := by rw [he]; decide
      rw [if_neg he'] at st hct
      have := ih (j + 1) f σ (by omega) (by omega) hf (fun x hx => by rw [hpr, if_neg he']; exact h31 x hx)
      rw [st, hct] at this
      exact this
    rw [(EnC_fr hE hf).1, if_neg (pu_nle (by omega)), nI_1, nI_1]
    by_cases hjc : j = c
    · rw [if_pos (by rw [hjc])]
      exact skip (by rw [hjc]; simp [el])
    · rw [if_neg (pu_ne hjc), pu_isInC s hs j (by omega), Option.bind_some]
      have hel := el_isIn (c := c) (s := s) hjc
      cases hb : s.testBit j with
      | true =>
        simp only [pu_10, ↓reduceIte]
        exact skip (by rw [hel, hb]; rfl)
      | false =>
        simp only [Bool.false_eq_true, ↓reduceIte]
        rw [hb] at hel
        have he : el c s j = true := by rw [hel]; rfl
        rw [if_pos he] at st hct
        have hcd := cnt_D hc (show j < n by omega) he
        have e1 : n - 1 - cnt c s j = (n - 1 - cnt c s j - 1) + 1 := by omega
        have pw1 : 12 ^ (n - 1 - cnt c s j - 1 + 1) ≤ 12 ^ 4 := Nat.pow_le_pow_right (by decide) (by omega)
        have dv : lN (12 ^ (n - 1 - cnt c s j)) / 12 = lN (12 ^ (n - 1 - cnt c s j - 1)) := by
          rw [e1, show (12 : Int64) = lN 12 from rfl, pk_lDiv (by omega) (by omega) (by omega), Nat.pow_succ, Nat.mul_div_cancel _ (by decide)]
          rfl
        have sd : ∀ x, w x * pre (fun d => T a (pc s) c d x) c s j * T a (pc s) c j x * 12 ^ (n - 1 - cnt c s j - 1) = w x * shD (n - 1) (fun d => T a (pc s) c d x) c s j := fun x => by
          unfold shD
          rw [Nat.mul_assoc, Nat.mul_assoc, Nat.mul_assoc]
        have sdl : ∀ x, x < n → w x * shD (n - 1) (fun d => T a (pc s) c d x) c s j ≤ M * 12 ^ 4 := fun x hx => Nat.mul_le_mul (hw x hx) (Nat.le_trans (shD_le (by omega) (hT _ _ _ _ _)) p4)
        obtain ⟨σ1, q1, q2, q3⟩ := look_L (P := fun x => w x * pre (fun d => T a (pc s) c d x) c s j) (wh := 12 ^ (n - 1 - cnt c s j - 1)) (D := j) (σ0 := σ) (EnC_fr hE hf) n5 hh ha hc hs (by omega) hT (fun x hx => by have := ple j x hx (by omega); omega) h31 n 0 ab_N σ (by omega) (by rw [pu_N]; omega) (frC_rfl hf.2.1) (fun y hy => by omega) (fun y _ hy => h31 y hy)
        have q2' : frC σ0 σ1 a := frC_tr hf q2 (Nat.le_refl _)
        have q3' : ∀ y, y < n → σ1.2 29 (a + 1) y = lN (w y * shD (n - 1) (fun d => T a (pc s) c d y) c s j) := fun y hy => by rw [← sd]; exact (q3 y hy).1
        have q31 : ∀ y, y < n → σ1.2 31 a y = lN (w y * pre (fun d => T a (pc s) c d y) c s (j + 1)) := fun y hy => by
          rw [hpr, if_pos he, ← Nat.mul_assoc]; exact (q3 y hy).2
        have lk : fX1_look h (nI a) (nI s) (nI c) (nI j) (lN (12 ^ (n - 1 - cnt c s j - 1))) σ = some (if fnd (fun y => w y * pre (fun d => T a (pc s) c d y) c s j * T a (pc s) c j y) n = true then 1 else 0, σ1) := by
          unfold fX1_look
          rw [(pu_pcC s hs).1, Option.bind_some, if_pos (inb_nI (by omega)), nI_1, if_pos (inb_nI (by omega)), cl_nI (by omega), cl_nI (by omega)]
          exact q1
        rw [dv, lk, Option.bind_some]
        dsimp only
        have nx := fun σ2 (hf2 : frC σ0 σ2 a) h312 => ih (j + 1) f σ2 (by omega) (by omega) hf2 h312
        rw [hct, show n - 1 - (cnt c s j + 1) = n - 1 - cnt c s j - 1 by omega, st] at nx
        cases hfn : fnd (fun y => w y * pre (fun d => T a (pc s) c d y) c s j * T a (pc s) c j y) n with
        | false =>
          have z0 := fnd_0 n hfn
          have gz : G (s ||| 2 ^ j) c (fun x => w x * shD (n - 1) (fun d => T a (pc s) c d x) c s j) = 0 := hz _ _ (fun x hx => by rw [← sd, z0 x hx, Nat.zero_mul])
          rw [gz, Nat.add_zero] at nx
          simp only [Bool.false_eq_true, ↓reduceIte]
          exact nx σ1 q2' q31
        | true =>
          simp only [↓reduceIte, pu_10]
          have hor := pu_or s hs j (by omega)
          obtain ⟨σ2, z1, z2⟩ := hrec (s ||| 2 ^ j) (fun x => w x * shD (n - 1) (fun d => T a (pc s) c d x) c s j) σ1 hor.2 q2' q3' sdl
          rw [hor.1, z1, Option.bind_some, lN_add]
          exact nx σ2 (frC_tr q2' z2 (by omega)) (fun x hx => by rw [z2.2.2.2.2 a (by omega)]; exact q31 x hx)
theorem gul_L {σ0 : ab_S} {rc0 rc1 : Nat → Int32 → Int32 → Int32 → Int32 → ab_S → Option (Int64 × ab_S)} {V : Nat → Nat} {t0 : Int32} {v2 : Int32} (hE : EnC n A h T σ0) (n5 : n ≤ 5) (ha : a < 4) (hs : s < 32) (hV : ∀ d, d < n → V d < 2 ^ 63) (hrec : ∀ d σ, d < n → s.testBit d = false → frC σ0 σ a → (t0 = 0 ∧ ∃ σ', rc1 h v2 (nI a) (nI s) (nI d) σ = some (lN (V d), σ') ∧ frC σ0 σ' a) ∨ (¬ t0 = 0 ∧ σ.2 29 a d = lN (V d))) : ∀ (k j fuel : Nat) (σ : ab_S), j + k = n → k < fuel → frC σ0 σ a → ∃ σ', fX1_guestActs_b103 rc0 rc1 fuel h v2 (nI a) (nI s) t0 (lN (mx (fun d => if s.testBit d = true then 0 else V d) j)) (nI j) σ = some (lN (mx (fun d => if s.testBit d = true then 0 else V d) n), σ') ∧ frC σ0 σ' a := by
  intro k
  induction k with
  | zero =>
    intro j fuel σ h1 h2 hf
    obtain ⟨f, rfl⟩ : ∃ f, fuel = f + 1 := ⟨fuel - 1, by omega⟩
    refine ⟨σ, ?_, hf⟩
    show fX1_guestActs_b103_o _ _ _ _ _ _ _ _ _ _ _ = _
    unfold fX1_guestActs_b103_o
    rw [(EnC_fr hE hf).1, if_pos (pu_le (by omega)), show j = n by omega]
  | succ k ih =>
    intro j fuel σ h1 h2 hf
    obtain ⟨f, rfl⟩ : ∃ f, fuel = f + 1 := ⟨fuel - 1, by omega⟩
    show ∃ σ', fX1_guestActs_b103_o rc0 rc1 (fX1_guestActs_b103 rc0 rc1 f) _ _ _ _ _ _ _ σ = some (_, σ') ∧ _
    unfold fX1_guestActs_b103_o fX1_guestActs_b158 fX1_guestActs_b163
    have st : mx (fun d => if s.testBit d = true then 0 else V d) (j + 1) = if mx (fun d => if s.testBit d = true then 0 else V d) j < (if s.testBit j = true then 0 else V j) then (if s.testBit j = true then 0 else V j) else mx (fun d => if s.testBit d = true then 0 else V d) j := rfl
    have nx := fun σ1 => ih (j + 1) f σ1 (by omega) (by omega)
    have hmx : mx (fun d => if s.testBit d = true then 0 else V d) j < 2 ^ 63 := by
      have := mx_le (f := fun d => if s.testBit d = true then 0 else V d) (B := 2 ^ 63 - 1) j (fun d hd => by
        split
        · exact Nat.zero_le _
        · have := hV d (by omega); omega)
      omega
    rw [(EnC_fr hE hf).1, if_neg (pu_nle (by omega)), pu_isInC s hs j (by omega), Option.bind_some, nI_1]
    cases hb : s.testBit j with
    | true =>
      simp only [pu_10, ↓reduceIte]
      rw [hb, if_pos rfl, if_neg (by omega)] at st
      rw [st] at nx
      exact nx σ hf
    | false =>
      simp only [Bool.false_eq_true, ↓reduceIte]
      rw [hb, if_neg (show ¬ (false = true) by decide)] at st
      have hVj := hV j (by omega)
      have pick : (if lN (V j) < lN (mx (fun d => if s.testBit d = true then 0 else V d) j) then lN (mx (fun d => if s.testBit d = true then 0 else V d) j) else lN (V j)) = lN (mx (fun d => if s.testBit d = true then 0 else V d) (j + 1)) := by
        rw [st]
        by_cases q : V j < mx (fun d => if s.testBit d = true then 0 else V d) j
        · rw [if_pos ((pk_lLT hVj hmx).mpr q), if_neg (by omega)]
        · rw [if_neg (fun z => q ((pk_lLT hVj hmx).mp z))]
          by_cases q2 : mx (fun d => if s.testBit d = true then 0 else V d) j < V j
          · rw [if_pos q2]
          · rw [if_neg q2, show V j = mx (fun d => if s.testBit d = true then 0 else V d) j by omega]
      rcases hrec j σ (by omega) hb hf with ⟨t, σ1, q1, q2⟩ | ⟨t, q1⟩
      · rw [if_pos t, q1, Option.bind_some]
        dsimp only
        rw [pick]
        exact nx σ1 q2
      · rw [if_neg t, if_pos (inb_nI (by omega)), if_pos (inb_nI (by omega)), cl_nI (by omega), cl_nI (by omega), q1, pick]
        exact nx σ hf
end
