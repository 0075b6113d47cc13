/-! PURE, 24: threes of bytes: judge, which, apart -/
def thv (N n : Nat) (T : Nat → Nat → Nat → Nat → Nat → Nat) (y1 y2 y3 : Int32) : Nat :=
  if (y1 < 0 ∨ nI n ≤ y1) ∨ (y3 < 0 ∨ nI n ≤ y3) ∨ y2 = y1 ∨ (y2 ≠ -1 ∧ (y2 < 0 ∨ nI n ≤ y2)) then 0 else sho N n (fun d => T 0 0 y1.toNatClampNeg d y3.toNatClampNeg) y1.toNatClampNeg 0 y2
theorem thv_x {n : Nat} (n1 : 1 ≤ n) (n5 : n ≤ 5) {y1 y2 y3 : Int32} (h : ¬ ((y1 < 0 ∨ nI n ≤ y1) ∨ (y3 < 0 ∨ nI n ≤ y3) ∨ y2 = y1 ∨ (y2 ≠ -1 ∧ (y2 < 0 ∨ nI n ≤ y2)))) : ∃ c x, c < n ∧ x < n ∧ y1 = nI c ∧ y3 = nI x ∧ DU n c 0 y2 := by
  rcases pu_ix y1 n (by omega) with q | ⟨c, hc, e1⟩
  · exact absurd (Or.inl q) h
  rcases pu_ix y3 n (by omega) with q | ⟨x, hx, e3⟩
  · exact absurd (Or.inr (Or.inl q)) h
  refine ⟨c, x, hc, hx, e1, e3, ?_⟩
  by_cases hm : y2 = -1
  · exact Or.inl hm
  rcases pu_ix y2 n (by omega) with q | ⟨D, hD, e2⟩
  · exact absurd (Or.inr (Or.inr (Or.inr ⟨hm, q⟩))) h
  refine Or.inr ⟨D, hD, e2, ?_⟩
  have hne : D ≠ c := fun z => h (Or.inr (Or.inr (Or.inl (by rw [e1, e2, z]))))
  rw [el_isIn hne, Nat.zero_testBit]; rfl
theorem thv_le {n : Nat} {T : Nat → Nat → Nat → Nat → Nat → Nat} (hT : ∀ a r c d x, T a r c d x ≤ 12) (n1 : 1 ≤ n) (n5 : n ≤ 5) {y1 y2 y3 : Int32} : thv (n - 1) n T y1 y2 y3 ≤ 12 ^ (n - 1) := by
  unfold thv
  split
  · exact Nat.zero_le _
  · next h =>
    obtain ⟨c, x, hc, hx, e1, e3, hd⟩ := thv_x n1 n5 h
    rw [e1, cl_nI (by omega)]
    exact sho_le hc n5 (Nat.le_refl _) (fun d => hT _ _ _ _ _) hd
theorem thv_sc {n : Nat} {T : Nat → Nat → Nat → Nat → Nat → Nat} (n1 : 1 ≤ n) (n5 : n ≤ 5) {y1 y2 y3 : Int32} : thv 4 n T y1 y2 y3 = 12 ^ (5 - n) * thv (n - 1) n T y1 y2 y3 := by
  unfold thv
  split
  · rw [Nat.mul_zero]
  · next h =>
    obtain ⟨c, x, hc, hx, e1, e3, hd⟩ := thv_x n1 n5 h
    rw [e1, cl_nI (by omega)]
    exact sho_sc hc n5 hd
theorem t64_inj {x y : Int32} : (lg_cmp x.toInt64 y.toInt64 = 0) ↔ x = y := by
  rw [lg_cmp_eq]
  constructor
  · intro h
    have := congrArg Int64.toInt h
    rw [Int32.toInt_toInt64, Int32.toInt_toInt64] at this
    exact Int32.toInt_inj.mp this
  · intro h; rw [h]
theorem pu_wi_m1 {n : Nat} {y : Int32} (n1 : 1 ≤ n) (n5 : n ≤ 5) : fX10_within y.toInt64 (-1) (nI n - 1).toInt64 = some (if y ≠ -1 ∧ (y < 0 ∨ nI n ≤ y) then 0 else 1) := by
  have e : (nI n - 1).toInt = (n : Int) - 1 := pk_sub_toInt (a := n) (b := 1) (by omega) (by omega)
  rw [within_eq]
  have hm : y = -1 ↔ y.toInt = -1 := by rw [← Int32.toInt_inj]; rfl
  have h1 : (-1 ≤ y.toInt64 ∧ y.toInt64 ≤ (nI n - 1).toInt64) ↔ (-1 ≤ y.toInt ∧ y.toInt ≤ (n : Int) - 1) := by
    rw [Int64.le_iff_toInt_le, Int64.le_iff_toInt_le, Int32.toInt_toInt64, Int32.toInt_toInt64, e, show ((-1 : Int64)).toInt = -1 from by decide]
  have h2 : (y ≠ -1 ∧ (y < 0 ∨ nI n ≤ y)) ↔ (y.toInt ≠ -1 ∧ (y.toInt < 0 ∨ (n : Int) ≤ y.toInt)) := by
    rw [ne_eq, hm, Int32.lt_iff_toInt_lt, Int32.le_iff_toInt_le, Int32.toInt_zero, nI_toInt (by omega)]
  by_cases q : (y ≠ -1 ∧ (y < 0 ∨ nI n ≤ y))
  · rw [if_pos q, bI_f (fun z => by
      have a := h1.mp z
      have b := h2.mp q
      omega)]
  · rw [if_neg q, bI_t (h1.mpr (by
      by_cases w : y.toInt = -1
      · omega
      · by_cases w2 : y.toInt < 0 ∨ (n : Int) ≤ y.toInt
        · exact absurd (h2.mpr ⟨w, w2⟩) q
        · omega))]
theorem thM_by {n h : Nat} {σc σm : ab_S} (hlw : R_lw n σc σm) (hn : σm.1 0 0 6 = nI n) (n1 : 1 ≤ n) (n5 : n ≤ 5) (hh : h < 4) (y1 y2 y3 : Int32) : ∃ σ', fX10_threeBy (nI h) y1.toInt64 y2.toInt64 y3.toInt64 σm = some (lN (thv 4 n (tw σc h) y1 y2 y3), σ') ∧ mG σ' = mG σm := by
  unfold fX10_threeBy fX10_threeBy_b42 thv
  rcases pu_ix y1 n (by omega) with q1 | ⟨c, hc, rfl⟩
  · rw [pu_isDoor_no hn q1 n1, if_pos (Or.inl q1)]
    exact ⟨σm, rfl, rfl⟩
  rw [pu_isDoor_yes hn hc, Option.bind_some, if_neg pu_10, hn, pu_wi_m1 n1 n5, Option.bind_some]
  by_cases q2 : y2 ≠ -1 ∧ (y2 < 0 ∨ nI n ≤ y2)
  · rw [if_pos q2, if_pos rfl, if_pos (Or.inr (Or.inr (Or.inr q2)))]
    exact ⟨σm, rfl, rfl⟩
  rw [if_neg q2, if_neg pu_10]
  rcases pu_ix y3 n (by omega) with q3 | ⟨x, hx, rfl⟩
  · rw [pu_isDoor_no hn q3 n1, if_pos (Or.inr (Or.inl q3))]
    exact ⟨σm, rfl, rfl⟩
  rw [pu_isDoor_yes hn hx, Option.bind_some, if_neg pu_10]
  by_cases q4 : y2 = nI c
  · rw [if_pos (t64_inj.mpr q4), if_pos (Or.inr (Or.inr (Or.inl q4)))]
    exact ⟨σm, rfl, rfl⟩
  rw [if_neg (fun z => q4 (t64_inj.mp z))]
  have nc : ¬ (nI c < 0 ∨ nI n ≤ nI c) := fun z => z.elim (fun z => pu_n1l (by omega) z) (fun z => pu_nle hc (by omega) z)
  have nx : ¬ (nI x < 0 ∨ nI n ≤ nI x) := fun z => z.elim (fun z => pu_n1l (by omega) z) (fun z => pu_nle hx (by omega) z)
  have nn : ¬ ((nI c < 0 ∨ nI n ≤ nI c) ∨ (nI x < 0 ∨ nI n ≤ nI x) ∨ y2 = nI c ∨ (y2 ≠ -1 ∧ (y2 < 0 ∨ nI n ≤ y2))) := fun z => z.elim nc (fun z => z.elim nx (fun z => z.elim q4 q2))
  obtain ⟨c', x', hc', hx', e1, e3, hd⟩ := thv_x n1 n5 nn
  have : c' = c := ((nI_eq (by omega) (by omega)).mp e1).symm
  subst this
  rw [if_neg nn, Int32.toInt32_toInt64, Int32.toInt32_toInt64, Int32.toInt32_toInt64, cl_nI (by omega), cl_nI (by omega)]
  obtain ⟨σ1, q5, q6⟩ := shM_ok (n := n) (h := h) (a := 0) (s := 0) (x := x) (c := c') hlw hn n5 hh (by omega) hc (by omega) hd
  rw [show (0 : Int32) = nI 0 from rfl, q5]
  exact ⟨σ1, rfl, q6⟩
section
variable {n d m : Nat} {y : Nat → Int32}
/-- the class: what a three says -/
theorem thC {h j : Nat} {σ : ab_S} (hg : R_gv σ) (hL : LwOK σ) (hn : σ.1 1 0 3 = nI n) (n1 : 1 ≤ n) (n5 : n ≤ 5) (hh : h < 4) (hd6 : d < 6) (e0 : σ.1 40 0 d = 0) (e1 : σ.1 41 0 d = nI m) (hm : m ≤ 60) (hj : j ≤ 30) (hy : ∀ k, k < m → σ.2 43 d k = (y k).toInt64) : ∃ σ', fX9_shareOfThree (nI d) (nI j) (nI h) σ = some (lN (if 3 * j + 3 ≤ m then thv (n - 1) n (tw σ h) (y (3 * j)) (y (3 * j + 1)) (y (3 * j + 2)) else 0), σ') ∧ mT σ' = mT σ ∧ R_gv σ' := by
  unfold fX9_shareOfThree fX9_shareOfThree_b95 fX9_shareOfThree_b117
  have hl := sh_len (m := m) (s := 0) hd6 e0 (by omega) e1
  have e3 : (3 : Int32) * nI j = nI (3 * j) := by rw [show (3 : Int32) = nI 3 from rfl, pk_mul]
  rw [e3, sh_pl hl hm, nI_toInt (by omega), show (3 : Int32).toInt = 3 from rfl, Option.bind_some]
  by_cases hp : 3 * j + 3 ≤ m
  · rw [if_pos (show 0 ≤ ((3 * j : Nat) : Int) ∧ (0 : Int) ≤ 3 ∧ ((3 * j : Nat) : Int) + 3 ≤ (m : Int) by omega), if_neg pu_10, if_pos hp, nI_1, show nI (3 * j) + 2 = nI (3 * j + 2) from nI_add _ _, sh_at (s := 0) (m := m) hd6 e0 (by omega) e1 hm (by omega), sh_at (s := 0) (m := m) hd6 e0 (by omega) e1 hm (by omega), sh_at (s := 0) (m := m) hd6 e0 (by omega) e1 hm (by omega), Option.bind_some, Option.bind_some, Option.bind_some, hy _ (by omega), hy _ (by omega), hy _ (by omega), Int32.toInt32_toInt64, Int32.toInt32_toInt64, Int32.toInt32_toInt64]
    generalize y (3 * j) = y1
    generalize y (3 * j + 1) = y2
    generalize y (3 * j + 2) = y3
    unfold thv
    rcases pu_ix y1 n (by omega) with q1 | ⟨c, hc, rfl⟩
    · rw [pu_has_no hn q1, if_pos (Or.inl q1)]
      exact ⟨σ, rfl, rfl, hg⟩
    rw [pu_has_yes hn hc, Option.bind_some, if_neg pu_10]
    rcases pu_ix y3 n (by omega) with q3 | ⟨x, hx, rfl⟩
    · rw [pu_has_no hn q3, if_pos (Or.inr (Or.inl q3))]
      exact ⟨σ, rfl, rfl, hg⟩
    rw [pu_has_yes hn hx, Option.bind_some, if_neg pu_10]
    by_cases q4 : y2 = nI c
    · rw [if_pos q4, if_pos (Or.inr (Or.inr (Or.inl q4)))]
      exact ⟨σ, rfl, rfl, hg⟩
    rw [if_neg q4]
    have nc : ¬ (nI c < 0 ∨ nI n ≤ nI c) := fun z => z.elim (fun z => pu_n1l (by omega) z) (fun z => pu_nle hc (by omega) z)
    have nx : ¬ (nI x < 0 ∨ nI n ≤ nI x) := fun z => z.elim (fun z => pu_n1l (by omega) z) (fun z => pu_nle hx (by omega) z)
    have go : ¬ (y2 ≠ -1 ∧ (y2 < 0 ∨ nI n ≤ y2)) → ∃ σ', ((fX1_shareOf (nI h) 0 0 (nI c) y2 (nI x) σ).bind fun q1 => some (q1.1, q1.2)) = some (lN (if (nI c < 0 ∨ nI n ≤ nI c) ∨ (nI x < 0 ∨ nI n ≤ nI x) ∨ y2 = nI c ∨ (y2 ≠ -1 ∧ (y2 < 0 ∨ nI n ≤ y2)) then 0 else sho (n - 1) n (fun d => tw σ h 0 0 (nI c).toNatClampNeg d (nI x).toNatClampNeg) (nI c).toNatClampNeg 0 y2), σ') ∧ mT σ' = mT σ ∧ R_gv σ' := by
      intro q2
      have nn : ¬ ((nI c < 0 ∨ nI n ≤ nI c) ∨ (nI x < 0 ∨ nI n ≤ nI x) ∨ y2 = nI c ∨ (y2 ≠ -1 ∧ (y2 < 0 ∨ nI n ≤ y2))) := fun z => z.elim nc (fun z => z.elim nx (fun z => z.elim q4 q2))
      obtain ⟨c', x', hc', hx', f1, f3, hd⟩ := thv_x n1 n5 nn
      have : c' = c := ((nI_eq (by omega) (by omega)).mp f1).symm
      subst this
      rw [if_neg nn, cl_nI (by omega), cl_nI (by omega)]
      obtain ⟨σ1, q5, q6, q7⟩ := shC_ok (n := n) (h := h) (a := 0) (s := 0) (x := x) (c := c') hg hL hn n5 hh (by omega) (by omega) hc (by omega) hd
      rw [show (0 : Int32) = nI 0 from rfl, q5]
      exact ⟨σ1, rfl, q6, q7⟩
    by_cases q5 : y2 = -1
    · rw [if_pos q5]
      exact go (fun z => z.1 q5)
    · rw [if_neg q5]
      rcases pu_ix y2 n (by omega) with q6 | ⟨D, hD, e2⟩
      · rw [pu_has_no hn q6, if_pos (Or.inr (Or.inr (Or.inr ⟨q5, q6⟩)))]
        exact ⟨σ, rfl, rfl, hg⟩
      · rw [show fX7_has y2 σ = some 1 by rw [e2]; exact pu_has_yes hn hD, Option.bind_some, if_neg pu_10]
        exact go (fun z => z.2.elim (fun z => by rw [e2] at z; exact pu_n1l (by omega) z) (fun z => by rw [e2] at z; exact pu_nle hD (by omega) z))
  · rw [if_neg (show ¬ (0 ≤ ((3 * j : Nat) : Int) ∧ (0 : Int) ≤ 3 ∧ ((3 * j : Nat) : Int) + 3 ≤ (m : Int)) by omega), if_neg hp, if_pos rfl]
    exact ⟨σ, rfl, rfl, hg⟩
theorem thM {h j : Nat} {σc σ : ab_S} (hlw : R_lw n σc σ) (hn : σ.1 0 0 6 = nI n) (n1 : 1 ≤ n) (n5 : n ≤ 5) (hh : h < 4) (hd6 : d < 6) (e1 : σ.1 21 0 d = nI m) (hm : m ≤ 60) (hj : j ≤ 30) (hy : ∀ k, k < m → σ.2 22 0 (60 * d + k) = (y k).toInt64) : ∃ σ', fX10_threeAt (nI h) (nI d) (nI j) σ = some (lN (if 3 * j + 3 ≤ m then thv 4 n (tw σc h) (y (3 * j)) (y (3 * j + 1)) (y (3 * j + 2)) else 0), σ') ∧ mG σ' = mG σ := by
  unfold fX10_threeAt fX10_threeAt_b58
  have e3 : (3 : Int32) * nI j = nI (3 * j) := by rw [show (3 : Int32) = nI 3 from rfl, pk_mul]
  rw [e3, show nI (3 * j) + 2 = nI (3 * j + 2) from nI_add _ _, pu_60, if_pos (inb_nI hd6), cl_nI (by omega), e1, nI_1, show nI (60 * d + 3 * j) + 2 = nI (60 * d + 3 * j + 2) from nI_add _ _]
  by_cases hp : 3 * j + 3 ≤ m
  · rw [if_neg (pu_nle (by omega)), if_pos (inb_nI (by omega)), if_pos (inb_nI (by omega)), if_pos (inb_nI (by omega)), cl_nI (by omega), cl_nI (by omega), cl_nI (by omega), hy _ (by omega), Nat.add_assoc, Nat.add_assoc, hy _ (by omega), hy _ (by omega), if_pos hp]
    obtain ⟨σ1, q1, q2⟩ := thM_by hlw hn n1 n5 hh (y (3 * j)) (y (3 * j + 1)) (y (3 * j + 2))
    rw [q1]
    exact ⟨σ1, rfl, q2⟩
  · rw [if_pos (pu_le (by omega)), if_neg hp]
    exact ⟨σ, rfl, rfl⟩
end
def prod (f : Nat → Nat) : Nat → Nat
  | 0 => 1
  | j + 1 => prod f j * f j
theorem prod_le {f : Nat → Nat} {B : Nat} (h : ∀ j, f j ≤ B) : ∀ j, prod f j ≤ B ^ j
  | 0 => Nat.le_refl _
  | j + 1 => by
    unfold prod
    rw [Nat.pow_succ]
    exact Nat.mul_le_mul (prod_le h j) (h j)
theorem prod_sc {f : Nat → Nat} {K : Nat} : ∀ j, prod (fun j => K * f j) j = K ^ j * prod f j
  | 0 => rfl
  | j + 1 => by
    unfold prod
    rw [prod_sc j, Nat.pow_succ, Nat.mul_mul_mul_comm]

section
variable {n d m g : Nat} {v : Nat → Nat → Nat} {σ0 : ab_S}
/-- what the class reads of threes -/
def HC (d : Nat) (v : Nat → Nat → Nat) (σ0 : ab_S) : Prop := ∀ h j σ, h < 4 → j ≤ 30 → mT σ = mT σ0 → R_gv σ → ∃ σ', fX9_shareOfThree (nI d) (nI j) (nI h) σ = some (lN (v h j), σ') ∧ mT σ' = mT σ0 ∧ R_gv σ'
def HM (d K : Nat) (v : Nat → Nat → Nat) (σ0 : ab_S) : Prop := ∀ h j σ, h < 4 → j ≤ 30 → mG σ = mG σ0 → ∃ σ', fX10_threeAt (nI h) (nI d) (nI j) σ = some (lN (K * v h j), σ') ∧ mG σ' = mG σ0
/-- some host has it -/
def som (v : Nat → Nat) (g : Nat) : Nat → Bool
  | 0 => false
  | k + 1 => som v g k || (g.testBit k && decide (0 < v k))
theorem som_up {v : Nat → Nat} {k : Nat} (h : som v g k = true) : ∀ e, som v g (k + e) = true
  | 0 => h
  | e + 1 => by
    show (som v g (k + e) || _) = true
    rw [som_up h e]; rfl
theorem by_C {j : Nat} (hg : g < 32) (hv : ∀ h j, v h j ≤ 12 ^ 4) (H : HC d v σ0) (hj : j ≤ 30) : ∀ (k q fuel : Nat) (σ : ab_S), q + k = 4 → k < fuel → mT σ = mT σ0 → R_gv σ → som (fun h => v h j) g q = false → ∃ σ', fX9_isBySome_b3 fuel (nI d) (nI j) (nI g) (nI q) σ = some (if som (fun h => v h j) g 4 = true then 1 else 0, σ') ∧ mT σ' = mT σ0 ∧ R_gv σ' := by
  intro k
  induction k with
  | zero =>
    intro q fuel σ h1 h2 hm hgv hs
    obtain ⟨f, rfl⟩ : ∃ f, fuel = f + 1 := ⟨fuel - 1, by omega⟩
    refine ⟨σ, ?_, hm, hgv⟩
    show fX9_isBySome_b3_o _ _ _ _ _ _ = _
    unfold fX9_isBySome_b3_o
    have : q = 4 := by omega
    subst this
    rw [if_pos (show (4 : Int32) ≤ nI 4 from pu_le (a := 4) (by omega)), if_neg (by rw [hs]; decide)]
  | succ k ih =>
    intro q fuel σ h1 h2 hm hgv hs
    obtain ⟨f, rfl⟩ : ∃ f, fuel = f + 1 := ⟨fuel - 1, by omega⟩
    show ∃ σ', fX9_isBySome_b3_o (fX9_isBySome_b3 f) _ _ _ _ σ = some (_, σ') ∧ _
    unfold fX9_isBySome_b3_o fX9_isBySome_b33
    have st : som (fun h => v h j) g (q + 1) = (som (fun h => v h j) g q || (g.testBit q && decide (0 < v q j))) := rfl
    rw [hs, Bool.false_or] at st
    rw [if_neg (pr_nle (b := 4) (by omega)), pu_isInC g hg q (by omega), Option.bind_some, nI_1]
    cases hb : g.testBit q with
    | false =>
      simp only [Bool.false_eq_true, ↓reduceIte]
      rw [hb] at st
      exact ih (q + 1) f σ (by omega) (by omega) hm hgv st
    | true =>
      simp only [↓reduceIte, pu_10]
      obtain ⟨σ1, q1, q2, q3⟩ := H q j σ (by omega) hj hm hgv
      rw [q1, Option.bind_some]
      dsimp only
      have := hv q j
      have hc : (lg_cmp (lN (v q j)) 0 ≤ 0) ↔ v q j ≤ 0 := by rw [lg_cmp_le, show (0 : Int64) = lN 0 from rfl, pk_lLE (by omega) (by omega)]
      rw [hb, Bool.true_and] at st
      by_cases hz : v q j = 0
      · rw [if_pos (hc.mpr (by omega))]
        exact ih (q + 1) f σ1 (by omega) (by omega) q2 q3 (by rw [st, hz]; rfl)
      · rw [if_neg (fun z => hz (by have := hc.mp z; omega))]
        have := som_up (e := k) (show som (fun h => v h j) g (q + 1) = true by rw [st]; exact decide_eq_true (by omega))
        rw [show q + 1 + k = 4 by omega] at this
        rw [if_pos this]
        exact ⟨σ1, rfl, q2, q3⟩
theorem by_M {j K : Nat} {kk : Int32 → Int32 → Int32 → ab_S → Option (Int32 × ab_S)} (hg : g < 32) (hK : 0 < K) (hv : ∀ h j, K * v h j ≤ 12 ^ 4) (H : HM d K v σ0) (hj : j ≤ 30) : ∀ (k q fuel : Nat) (σ : ab_S), q + k = 4 → k < fuel → mG σ = mG σ0 → ∃ σ', fX10_judge_b52 kk fuel (nI d) (nI g) (nI j) (if som (fun h => v h j) g q = true then 1 else 0) (nI q) σ = (if som (fun h => v h j) g 4 = true then kk (nI d) (nI g) (nI (j + 1)) σ' else some (nI j, σ')) ∧ mG σ' = mG σ0 := by
  intro k
  induction k with
  | zero =>
    intro q fuel σ h1 h2 hm
    obtain ⟨f, rfl⟩ : ∃ f, fuel = f + 1 := ⟨fuel - 1, by omega⟩
    refine ⟨σ, ?_, hm⟩
    show fX10_judge_b52_o _ _ _ _ _ _ _ _ = _
    unfold fX10_judge_b52_o
    have : q = 4 := by omega
    subst this
    rw [if_pos (show (4 : Int32) ≤ nI 4 from pu_le (a := 4) (by omega)), nI_1]
    cases som (fun h => v h j) g 4
    · rfl
    · rfl
  | succ k ih =>
    intro q fuel σ h1 h2 hm
    obtain ⟨f, rfl⟩ : ∃ f, fuel = f + 1 := ⟨fuel - 1, by omega⟩
    show ∃ σ', fX10_judge_b52_o kk (fX10_judge_b52 kk f) _ _ _ _ _ σ = _ ∧ _
    unfold fX10_judge_b52_o fX10_judge_b86 fX10_judge_b87
    have st : som (fun h => v h j) g (q + 1) = (som (fun h => v h j) g q || (g.testBit q && decide (0 < v q j))) := rfl
    have o0 : ∀ b : Bool, ((if b = true then 1 else 0 : Int32) ||| 0) = (if b = true then 1 else 0) := by decide
    have o1 : ∀ b : Bool, ((if b = true then 1 else 0 : Int32) ||| 1) = 1 := by decide
    rw [if_neg (pr_nle (b := 4) (by omega)), pu_isInM g hg q (by omega), Option.bind_some, nI_1, o0, o1]
    cases hb : g.testBit q with
    | false =>
      simp only [Bool.false_eq_true, ↓reduceIte]
      rw [hb, Bool.false_and, Bool.or_false] at st
      rw [← st]
      exact ih (q + 1) f σ (by omega) (by omega) hm
    | true =>
      simp only [↓reduceIte, pu_10]
      obtain ⟨σ1, q1, q2⟩ := H q j σ (by omega) hj hm
      rw [q1, Option.bind_some]
      dsimp only
      have := hv q j
      have hc : (lg_cmp (lN (K * v q j)) 0 ≤ 0) ↔ K * v q j ≤ 0 := by rw [lg_cmp_le, show (0 : Int64) = lN 0 from rfl, pk_lLE (by omega) (by omega)]
      rw [hb, Bool.true_and] at st
      by_cases hz : v q j = 0
      · rw [if_pos (hc.mpr (by rw [hz, Nat.mul_zero]; omega))]
        rw [hz, show decide (0 < 0) = false from rfl, Bool.or_false] at st
        rw [← st]
        exact ih (q + 1) f σ1 (by omega) (by omega) q2
      · rw [if_neg (fun z => hz (by
          have := hc.mp z
          rcases Nat.mul_eq_zero.mp (Nat.le_zero.mp this) with w | w
          · omega
          · exact w))]
        have hs : som (fun h => v h j) g (q + 1) = true := by rw [st, decide_eq_true (show 0 < v q j by omega), Bool.or_true]
        have := ih (q + 1) f σ1 (by omega) (by omega) q2
        rw [if_pos hs] at this
        exact this
theorem jd_L {σm0 : ab_S} {K : Nat} (hg : g < 32) (hK : 0 < K) (hv1 : ∀ h j, v h j ≤ 12 ^ 4) (hv : ∀ h j, K * v h j ≤ 12 ^ 4) (H : HC d v σ0) (H2 : HM d K v σm0) (hd6 : d < 6) (e1 : σm0.1 21 0 d = nI m) (hm60 : m ≤ 60) : ∀ (k j fuel fuel2 : Nat) (σ σm : ab_S), j + k = (m + 2) / 3 → k < fuel → k < fuel2 → mT σ = mT σ0 → R_gv σ → mG σm = mG σm0 → ∃ r σ' σm', fX9_judge_b57 fuel (nI d) (nI g) (nI ((m + 2) / 3)) (nI j) σ = some (r, σ') ∧ fX10_judge_b34 fuel2 (nI d) (nI g) (nI j) σm = some (r, σm') ∧ mT σ' = mT σ0 ∧ R_gv σ' ∧ mG σm' = mG σm0 := by
  intro k
  induction k with
  | zero =>
    intro j fuel fuel2 σ σm h1 h2 h3 hm hgv hm2
    obtain ⟨f, rfl⟩ : ∃ f, fuel = f + 1 := ⟨fuel - 1, by omega⟩
    obtain ⟨f2, rfl⟩ : ∃ f, fuel2 = f + 1 := ⟨fuel2 - 1, by omega⟩
    refine ⟨-2, σ, σm, ?_, ?_, hm, hgv, hm2⟩
    · show fX9_judge_b57_o _ _ _ _ _ _ = _
      unfold fX9_judge_b57_o
      rw [if_pos (pu_le (by omega))]
    · show fX10_judge_b34_o _ _ _ _ _ = _
      unfold fX10_judge_b34_o
      rw [if_pos (inb_nI hd6), cl_nI (by omega), mG_get hm2 rfl, e1, show (3 : Int32) * nI j = nI (3 * j) by rw [show (3 : Int32) = nI 3 from rfl, pk_mul], if_pos (pu_le (by omega))]
  | succ k ih =>
    intro j fuel fuel2 σ σm h1 h2 h3 hm hgv hm2
    obtain ⟨f, rfl⟩ : ∃ f, fuel = f + 1 := ⟨fuel - 1, by omega⟩
    obtain ⟨f2, rfl⟩ : ∃ f, fuel2 = f + 1 := ⟨fuel2 - 1, by omega⟩
    obtain ⟨σ1, q1, q2, q3⟩ := by_C (j := j) hg hv1 H (by omega) 4 0 ab_N σ (by omega) (by rw [pu_N]; omega) hm hgv rfl
    obtain ⟨σ2, z1, z2⟩ := by_M (j := j) (kk := fX10_judge_b34 f2) hg hK hv H2 (by omega) 4 0 ab_N σm (by omega) (by rw [pu_N]; omega) hm2
    show ∃ r σ' σm', fX9_judge_b57_o (fX9_judge_b57 f) _ _ _ _ σ = some (r, σ') ∧ fX10_judge_b34_o (fX10_judge_b34 f2) _ _ _ σm = some (r, σm') ∧ _
    unfold fX9_judge_b57_o fX10_judge_b34_o fX9_isBySome
    have q1' : fX9_isBySome_b3 ab_N (nI d) (nI j) (nI g) 0 σ = _ := q1
    have z1' : fX10_judge_b52 (fX10_judge_b34 f2) ab_N (nI d) (nI g) (nI j) 0 0 σm = _ := z1
    rw [if_neg (pu_nle (by omega)), q1', if_pos (inb_nI hd6), cl_nI (by omega), mG_get hm2 rfl, e1, show (3 : Int32) * nI j = nI (3 * j) by rw [show (3 : Int32) = nI 3 from rfl, pk_mul], if_neg (pu_nle (by omega)), z1', Option.bind_some]
    dsimp only
    cases som (fun h => v h j) g 4 with
    | false =>
      refine ⟨nI j, σ1, σ2, rfl, rfl, q2, q3, z2⟩
    | true =>
      simp only [↓reduceIte, pu_10, nI_1]
      exact ih (j + 1) f f2 σ1 σ2 (by omega) (by omega) (by omega) q2 q3 z2
end
