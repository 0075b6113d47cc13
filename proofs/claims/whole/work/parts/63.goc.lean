/-! PURE, 32: the class's trees put together; shares laid; the whole -/
section
variable {n A h way : Nat} {T : Nat → Nat → Nat → Nat → Nat → Nat}
def HH (n A h way : Nat) (T : Nat → Nat → Nat → Nat → Nat → Nat) (k f : Nat) : Prop := ∀ (a s c : Nat) (w : Nat → Nat) (σ : ab_S), a + k = A → 1 ≤ k → EnC n A h T σ → c < n → s < 32 → (∀ x, x < n → σ.2 29 a x = lN (w x)) → (∀ x, x < n → w x ≤ 12 * 12 ^ (4 * a)) → ∃ σ', (fzX1_guestActs f).2 h (nI way) (nI a) (nI s) (nI c) σ = some (lN (HV (n - 1) n way T k a s c w), σ') ∧ frC σ σ' a
def GG (n A h way : Nat) (T : Nat → Nat → Nat → Nat → Nat → Nat) (k f : Nat) : Prop := ∀ (a s c : Nat) (w : Nat → Nat) (σ : ab_S), a + k = A → EnC n A h T σ → c < n → s < 32 → (∀ x, x < n → σ.2 29 a x = lN (w x)) → (∀ x, x < n → w x ≤ 12 * 12 ^ (4 * a)) → ∃ σ', (fzX1_guestActs f).1 h (nI way) (nI a) (nI s) (nI c) σ = some (lN (gv (n - 1) n way T k a s c w), σ') ∧ frC σ σ' a
theorem guest_of (n5 : n ≤ 5) (hh : h < 4) (hA : A ≤ 3) (hw1 : 1 ≤ way) (hw3 : way ≤ 3) (hT : ∀ a r c d x, T a r c d x ≤ 12) {k f : Nat} (H : HH n A h way T k f) : GG n A h way T k (f + 1) := by
  intro a s c w σ ak hE hc hs hw hb
  have hl := lo_lt (s := s) hc n 0 (by omega)
  have hv : ∀ d, d < n → HV (n - 1) n way T k a s d w < 2 ^ 63 := fun d hd => by
    have h1 := HV_le (N := n - 1) (n := n) (T := T) (way := way) hw3 n5 (by omega) (by omega) hT (k := k) (a := a) (s := s) (c := d) (w := w) (M := 12 * 12 ^ (4 * a)) hd hb
    have h2 := bnd (a := a) (k := k) (by omega)
    omega
  show ∃ σ', fX1_guestActs_o (fzX1_guestActs f).1 (fzX1_guestActs f).2 _ _ _ _ _ σ = some (_, σ') ∧ _
  unfold fX1_guestActs_o fX1_guestActs_b16
  rw [hE.2.1]
  by_cases h3 : way = 3
  · subst h3
    rw [gv_HV3]
    simp only [show nI 3 = (3 : Int32) from rfl, ↓reduceIte]
    by_cases hk : k = 0
    · rw [if_neg (pu_nlt (by omega))]
      subst hk
      exact gul_L (rc0 := (fzX1_guestActs f).1) (rc1 := (fzX1_guestActs f).2) (V := fun d => HV (n - 1) n 3 T 0 a s d w) (t0 := 1) (v2 := 3) hE n5 (by omega) hs hv (fun d σ1 hd _ hf => Or.inr ⟨by decide, by rw [hf.2.2.2.1 a (Nat.le_refl _)]; exact hw d hd⟩) n 0 ab_N σ (by omega) (by rw [pu_N]; omega) (frC_rfl hE.2.2.2.1)
    · rw [if_pos (pu_lt (by omega))]
      exact gul_L (rc0 := (fzX1_guestActs f).1) (rc1 := (fzX1_guestActs f).2) (V := fun d => HV (n - 1) n 3 T k a s d w) (t0 := 0) (v2 := 3) hE n5 (by omega) hs hv (fun d σ1 hd _ hf => Or.inl ⟨rfl, by
        obtain ⟨σ2, q1, q2⟩ := H a s d w σ1 ak (by omega) (EnC_fr hE hf) hd hs (fun x hx => by rw [hf.2.2.2.1 a (Nat.le_refl _)]; exact hw x hx) hb
        exact ⟨σ2, q1, frC_tr hf q2 (Nat.le_refl _)⟩⟩) n 0 ab_N σ (by omega) (by rw [pu_N]; omega) (frC_rfl hE.2.2.2.1)
  · have w3 : ¬ nI way = 3 := pl_ne (b := 3) h3
    rw [if_neg w3, if_neg w3, gv_HV (by omega)]
    unfold fX1_guestActs_b38 fX1_guestActs_b42 fX1_guestActs_b43 fX1_guestActs_b66 fX1_guestActs_b96
    rw [if_neg pu_10, if_neg pu_10, if_neg pu_10, if_neg pu_10, if_pos (show (0 : Int32) = 0 from rfl), if_pos (show (0 : Int32) = 0 from rfl), if_pos (show (0 : Int32) = 0 from rfl), leC hE.1 n5 hs hc, Option.bind_some]
    by_cases hk : k = 0
    · rw [if_neg (pu_nlt (by omega))]
      subst hk
      refine ⟨σ, ?_, frC_rfl hE.2.2.2.1⟩
      simp only [pu_10, ↓reduceIte, Option.bind_some, inb_nI (show a < 4 by omega), inb_nI (show lo s c n 0 < 5 by omega), inb_nI (show c < 5 by omega), cl_nI (d := a) (by omega), cl_nI (d := lo s c n 0) (by omega), cl_nI (d := c) (by omega), hw _ hl, hw _ hc]
      rcases (show way = 1 ∨ way = 2 by omega) with rfl | rfl
      · rfl
      · rfl
    · rw [if_pos (pu_lt (by omega))]
      have go : ∀ c', c' < n → ∃ σ', (((fzX1_guestActs f).2 h (nI way) (nI a) (nI s) (nI c') σ).bind fun q2 => some (q2.1, q2.2)) = some (lN (HV (n - 1) n way T k a s c' w), σ') ∧ frC σ σ' a := fun c' hc' => by
        obtain ⟨σ2, q1, q2⟩ := H a s c' w σ ak (by omega) hE hc' hs hw hb
        rw [q1]
        exact ⟨σ2, rfl, q2⟩
      by_cases h2 : way = 2
      · rw [if_pos (show nI way = 2 by rw [h2]; rfl), if_pos h2]
        exact go _ hl
      · rw [if_neg (show ¬ nI way = 2 from pl_ne (b := 2) h2), if_neg h2, if_pos (show nI way = 1 by rw [show way = 1 by omega]; rfl)]
        exact go _ hc
theorem host_of (n2 : 2 ≤ n) (n5 : n ≤ 5) (hh : h < 4) (hA : A ≤ 3) (hw3 : way ≤ 3) (hT : ∀ a r c d x, T a r c d x ≤ 12) {k f : Nat} (H : GG n A h way T k f) : HH n A h way T (k + 1) (f + 1) := by
  intro a s c w σ ak _ hE hc hs hw hb
  have hM : 12 * 12 ^ (4 * a) ≤ 12 ^ 9 := by
    have := pow_bound (N := 4) (a := a) (by omega) (by omega)
    have h2 : 12 ^ (4 * a) ≤ 12 ^ 8 := Nat.pow_le_pow_right (by decide) (by omega)
    omega
  have hfr : frC σ (ab_cl σ 29 a 0 31 a 0 n) a := ⟨rfl, hE.2.2.2.1, fun r hr hr' => by
      funext y x
      exact if_neg (fun z => hr' z.1), fun y hy => by
      funext x
      exact (show (if 29 = 31 ∧ y = a ∧ 0 ≤ x ∧ x < 0 + n then σ.2 29 a (0 + (x - 0)) else σ.2 29 y x) = σ.2 29 y x from if_neg (by omega)), fun y hy => by
      funext x
      exact (show (if 31 = 31 ∧ y = a ∧ 0 ≤ x ∧ x < 0 + n then σ.2 29 a (0 + (x - 0)) else σ.2 31 y x) = σ.2 31 y x from if_neg (by omega))⟩
  have h31 : ∀ x, x < n → (ab_cl σ 29 a 0 31 a 0 n).2 31 a x = lN (w x * pre (fun d => T a (pc s) c d x) c s 0) := fun x hx => by
    have e : (ab_cl σ 29 a 0 31 a 0 n).2 31 a x = σ.2 29 a (0 + (x - 0)) := if_pos ⟨rfl, rfl, by omega, by omega⟩
    rw [e, show 0 + (x - 0) = x by omega, hw x hx, show pre (fun d => T a (pc s) c d x) c s 0 = 1 from rfl, Nat.mul_one]
  obtain ⟨σ1, q1, q2⟩ := ho_L (way := way) (M := 12 * 12 ^ (4 * a)) (rc0 := (fzX1_guestActs f).1) (rc1 := (fzX1_guestActs f).2) (G := fun s' c' w' => gv (n - 1) n way T k (a + 1) s' c' w') hE n5 hh (show a < 3 by omega) hc hs hT hM hb (fun s' w' hz => gv_0 hw3 n5 (by omega) (by omega) hT hc hz) (fun s' w' σ1 hs' hf hw' hb' => H (a + 1) s' c w' σ1 (by omega) (EnC_fr hE hf) hc hs' hw' (fun x hx => by
      have := hb' x hx
      rw [Nat.mul_assoc, ← Nat.pow_add] at this
      exact this)) n 0 ab_N _ (by omega) (by rw [pu_N]; omega) hfr h31
  refine ⟨σ1, ?_, q2⟩
  show fX1_hostActs_o (fzX1_guestActs f).1 (fzX1_guestActs f).2 _ _ _ _ _ σ = some (lN (ac (n - 1) n T a s c w _), σ1)
  unfold fX1_hostActs_o
  have cpb : ab_cpb 0 0 (nI n) 5 5 = true := by
    unfold ab_cpb
    rw [cl_nI (by omega)]
    exact decide_eq_true ⟨by decide, by decide, pu_n1l (by omega), by show 0 + n ≤ 5; omega, by show 0 + n ≤ 5; omega⟩
  rw [if_neg (pu_n1l (by omega)), if_pos (pl_lt (b := 3) (by omega)), if_pos (inb_nI (by omega)), if_pos (inb_nI (by omega)), hE.1, if_pos cpb, pu_k, cl_nI (by omega), cl_nI (by omega), show ((0 : Int32)).toNatClampNeg = 0 from rfl, wact_ok (σ := ab_cl σ 29 a 0 31 a 0 n) hE.1 (by omega) n5, Option.bind_some]
  exact q1
theorem go_ok (n2 : 2 ≤ n) (n5 : n ≤ 5) (hh : h < 4) (hA : A ≤ 3) (hw1 : 1 ≤ way) (hw3 : way ≤ 3) (hT : ∀ a r c d x, T a r c d x ≤ 12) : ∀ (k fuel : Nat), 2 * k < fuel → GG n A h way T k fuel
  | 0, fuel, hf => by
    obtain ⟨f, rfl⟩ : ∃ f, fuel = f + 1 := ⟨fuel - 1, by omega⟩
    exact guest_of n5 hh hA hw1 hw3 hT (fun a s c w σ _ h1 => by omega)
  | k + 1, fuel, hf => by
    obtain ⟨f, rfl⟩ : ∃ f, fuel = f + 2 := ⟨fuel - 2, by omega⟩
    exact guest_of n5 hh hA hw1 hw3 hT (host_of n2 n5 hh hA hw3 hT (go_ok n2 n5 hh hA hw1 hw3 hT k f (by omega)))
theorem ho_ok (n2 : 2 ≤ n) (n5 : n ≤ 5) (hh : h < 4) (hA1 : 1 ≤ A) (hA : A ≤ 3) (hw1 : 1 ≤ way) (hw3 : way ≤ 3) (hT : ∀ a r c d x, T a r c d x ≤ 12) : HH n A h way T A 64 := by
  obtain ⟨B, rfl⟩ : ∃ B, A = B + 1 := ⟨A - 1, by omega⟩
  exact host_of n2 n5 hh hA hw3 hT (go_ok n2 n5 hh hA hw1 hw3 hT B 63 (by omega))
end
theorem ls_L {n : Nat} {W : Nat → Nat} {σ0 : ab_S} (hg : R_gv σ0) (hn : σ0.1 1 0 3 = nI n) (n5 : n ≤ 5) (hW : ∀ d, d < n → W d ≤ 12 ∧ σ0.1 2 0 d = nI (W d)) : ∀ (k j fuel : Nat) (σ : ab_S), j + k = n → k < fuel → mI σ = mI σ0 → σ.1 = σ0.1 → (∀ r, r ≠ 29 → σ.2 r = σ0.2 r) → (∀ x, x < j → σ.2 29 0 x = lN (W x)) → ∃ σ', fX1_layShares_b2 fuel (nI j) σ = some σ' ∧ σ'.1 = σ0.1 ∧ (∀ r, r ≠ 29 → σ'.2 r = σ0.2 r) ∧ (∀ x, x < n → σ'.2 29 0 x = lN (W x)) := by
  intro k
  induction k with
  | zero =>
    intro j fuel σ h1 h2 hm h1' hr hx
    obtain ⟨f, rfl⟩ : ∃ f, fuel = f + 1 := ⟨fuel - 1, by omega⟩
    refine ⟨σ, ?_, h1', hr, fun x h => hx x (by omega)⟩
    show fX1_layShares_b2_o _ _ _ = _
    unfold fX1_layShares_b2_o
    rw [h1', hn, if_pos (pu_le (by omega))]
  | succ k ih =>
    intro j fuel σ h1 h2 hm h1' hr hx
    obtain ⟨f, rfl⟩ : ∃ f, fuel = f + 1 := ⟨fuel - 1, by omega⟩
    obtain ⟨w1, w2⟩ := hW j (by omega)
    obtain ⟨σ', y1, y2, y3, y4⟩ := ih (j + 1) f (ab_sl σ 29 0 j (lN (W j))) (by omega) (by omega) hm h1' (fun r hr' => by rw [pu_slR hr']; exact hr r hr') (fun x h => by
      by_cases e : x = j
      · subst e; exact pu_slE
      · rw [pu_slJ e]; exact hx x (by omega))
    refine ⟨σ', ?_, y2, y3, y4⟩
    show fX1_layShares_b2_o _ _ _ = _
    unfold fX1_layShares_b2_o
    rw [h1', hn, if_neg (pu_nle (by omega)), if_pos (show ab_inb 0 4 = true from rfl), if_pos (inb_nI (by omega)), if_pos (inb_nI (by omega)), pu_k, cl_nI (by omega), w2, nI_l (by omega), nI_1, show ((0 : Int32)).toNatClampNeg = 0 from rfl]
    exact y1
theorem ls_ok {n : Nat} {W : Nat → Nat} {σ : ab_S} (hg : R_gv σ) (hn : σ.1 1 0 3 = nI n) (n5 : n ≤ 5) (hW : ∀ d, d < n → W d ≤ 12 ∧ σ.1 2 0 d = nI (W d)) : ∃ σ', fX1_layShares σ = some σ' ∧ σ'.1 = σ.1 ∧ (∀ r, r ≠ 29 → σ'.2 r = σ.2 r) ∧ (∀ x, x < n → σ'.2 29 0 x = lN (W x)) :=
  ls_L hg hn n5 hW n 0 ab_N σ (by omega) (by rw [pu_N]; omega) rfl rfl (fun _ _ => rfl) (fun x h => by omega)
theorem wacts_ok {n A : Nat} {σ : ab_S} (hn : σ.1 1 0 3 = nI n) (hAs : σ.1 1 0 5 = nI A) (n1 : 1 ≤ n) (n5 : n ≤ 5) (hA : A ≤ 3) : fX7_wholeActs σ = some (lN (12 ^ ((n - 1) * A))) := by
  have L : ∀ (k j fuel : Nat), j + k = A → k < fuel → fX7_wholeActs_b10 fuel (lN (12 ^ (n - 1))) (lN (12 ^ ((n - 1) * j))) (nI j) σ = some (lN (12 ^ ((n - 1) * A))) := by
    intro k
    induction k with
    | zero =>
      intro j fuel h1 h2
      obtain ⟨f, rfl⟩ : ∃ f, fuel = f + 1 := ⟨fuel - 1, by omega⟩
      show fX7_wholeActs_b10_o _ _ _ _ _ = _
      unfold fX7_wholeActs_b10_o
      rw [hAs, if_pos (pu_le (by omega)), show j = A by omega]
    | succ k ih =>
      intro j fuel h1 h2
      obtain ⟨f, rfl⟩ : ∃ f, fuel = f + 1 := ⟨fuel - 1, by omega⟩
      show fX7_wholeActs_b10_o _ _ _ _ _ = _
      unfold fX7_wholeActs_b10_o
      have := ih (j + 1) f (by omega) (by omega)
      rw [Nat.mul_succ, Nat.pow_add] at this
      rw [hAs, if_neg (pu_nle (by omega)), lN_mul, nI_1]
      exact this
  unfold fX7_wholeActs
  rw [wact_ok hn n1 n5, Option.bind_some]
  have := L A 0 ab_N (by omega) (by rw [pu_N]; omega)
  rw [Nat.mul_zero, Nat.pow_zero] at this
  exact this
theorem ww_C {n A : Nat} {W : Nat → Nat} {σ : ab_S} (hn : σ.1 1 0 3 = nI n) (hAs : σ.1 1 0 5 = nI A) (n1 : 1 ≤ n) (n5 : n ≤ 5) (hA : A ≤ 3) (hW : ∀ d, d < n → W d ≤ 12 ∧ σ.1 2 0 d = nI (W d)) : fX7_wholeWorth σ = some (lN (sm W n * 12 ^ ((n - 1) * A))) := by
  have sb := sm_le (f := W) (B := 12) n (fun d hd => (hW d hd).1)
  unfold fX7_wholeWorth
  rw [tg_c hn n5 (fun d hd => (hW d hd).2), Option.bind_some, wacts_ok hn hAs n1 n5 hA, Option.bind_some, nI_l (by omega), lN_mul]
