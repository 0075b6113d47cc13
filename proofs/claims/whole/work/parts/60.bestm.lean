/-! PURE, 29: the guest's best, the reference -/
section
variable {n A h a c s : Nat} {w : Nat → Nat} {σc : ab_S}
theorem bwl_L {σ0 : ab_S} {rc0 : Int32 → Int32 → Int32 → ab_S → Option (Int64 × ab_S)} {rc1 : Int32 → Int32 → Int32 → Int32 → ab_S → Option (Int64 × ab_S)} {G : Nat → Nat → (Nat → Nat) → Nat} (hE : EnM n A σc σ0) (n5 : n ≤ 5) (hh : h < 4) (ha : a < 3) (hc : c < n) (hs : s < 32) (hT : ∀ a r c d x, tw σc h a r c d x ≤ 12) (hw : ∀ x, x < n → σ0.2 13 0 (5 * a + x) = lN (w x)) {M : Nat} (hwM : ∀ x, x < n → w x ≤ M) (hrec : ∀ s' w' σ, s' < 32 → frM σ0 σ (5 * (a + 1)) → (∀ x, x < n → σ.2 13 0 (5 * (a + 1) + x) = lN (w' x)) → (∀ x, x < n → w' x ≤ M * 12 ^ 4) → ∃ σ', rc0 (nI h) (nI (a + 1)) (nI s') σ = some (lN (G s' c w'), σ') ∧ frM σ0 σ' (5 * (a + 1))) : ∀ (k j fuel : Nat) (σ : ab_S), j + k = n → k < fuel → frM σ0 σ (5 * (a + 1)) → ∃ σ', fX10_bestWith_b28 rc0 rc1 fuel (nI h) (nI a) (nI c) (nI s) (lN (acw n (tw σc h) a s c w G j)) (nI j) σ = some (lN (acw n (tw σc h) a s c w G n), σ') ∧ frM σ0 σ' (5 * (a + 1)) := by
  intro k
  induction k with
  | zero =>
    intro j fuel σ h1 h2 hf
    obtain ⟨f, rfl⟩ : ∃ f, fuel = f + 1 := ⟨fuel - 1, by omega⟩
    refine ⟨σ, ?_, hf⟩
    show fX10_bestWith_b28_o _ _ _ _ _ _ _ _ _ _ = _
    unfold fX10_bestWith_b28_o
    rw [(EnM_fr hE hf).2.1, if_pos (pu_le (by omega)), show j = n by omega]
  | succ k ih =>
    intro j fuel σ h1 h2 hf
    obtain ⟨f, rfl⟩ : ∃ f, fuel = f + 1 := ⟨fuel - 1, by omega⟩
    show ∃ σ', fX10_bestWith_b28_o rc0 rc1 (fX10_bestWith_b28 rc0 rc1 f) _ _ _ _ _ _ σ = some (_, σ') ∧ _
    unfold fX10_bestWith_b28_o fX10_bestWith_b58 fX10_bestWith_b93 fX10_bestWith_b99
    have st : acw n (tw σc h) a s c w G (j + 1) = acw n (tw σc h) a s c w G j + (if el c s j = true then G (s ||| 2 ^ j) c (fun x => w x * shD 4 (fun d => tw σc h a (pc s) c d x) c s j) else 0) := by
      unfold acw
      rw [show sm (fun D => if el c s D = true then G (s ||| 2 ^ D) c (fun x => w x * shD 4 (fun d => tw σc h a (pc s) c d x) c s D) else 0) (j + 1) = _ + _ from rfl, Nat.add_assoc]
    rw [(EnM_fr hE hf).2.1, if_neg (pu_nle (by omega)), if_neg (pu_n1l (by omega)), nI_1, nI_1]
    by_cases hjc : j = c
    · rw [if_pos (by rw [hjc])]
      rw [if_neg (by rw [hjc]; simp [el])] at st
      have := ih (j + 1) f σ (by omega) (by omega) hf
      rw [st] at this
      exact this
    · rw [if_neg (pu_ne hjc), pu_isInM s hs j (by omega), Option.bind_some]
      have hel := el_isIn (c := c) (s := s) hjc
      cases hb : s.testBit j with
      | true =>
        simp only [pu_10, ↓reduceIte]
        rw [hb] at hel
        rw [if_neg (by rw [hel]; decide)] at st
        have := ih (j + 1) f σ (by omega) (by omega) hf
        rw [st] at this
        exact this
      | false =>
        simp only [Bool.false_eq_true, ↓reduceIte]
        rw [hb] at hel
        have he : el c s j = true := by rw [hel]; rfl
        rw [if_pos he] at st
        obtain ⟨σ1, q1, q2, q3⟩ := gb_ok hE n5 hh ha hc hs (el_DU (by omega) he) hw hf
        have hor := pu_or s hs j (by omega)
        have q3' : ∀ x, x < n → σ1.2 13 0 (5 * (a + 1) + x) = lN (w x * shD 4 (fun d => tw σc h a (pc s) c d x) c s j) := fun x hx => by rw [q3 x hx, sho_D (by omega)]
        obtain ⟨σ2, z1, z2⟩ := hrec (s ||| 2 ^ j) (fun x => w x * shD 4 (fun d => tw σc h a (pc s) c d x) c s j) σ1 hor.2 q2 q3' (fun x hx => Nat.mul_le_mul (hwM x hx) (shD_le (by have := cnt_D hc (show j < n by omega) he; omega) (hT _ _ _ _ _)))
        have fin := ih (j + 1) f σ2 (by omega) (by omega) z2
        rw [st, ← lN_add] at fin
        rw [q1, Option.bind_some, if_pos (show (0 : Int32) ≤ nI j from pu_le (a := 0) (by omega)), hor.1, z1]
        exact fin
theorem bbl_L {σ0 : ab_S} {rc0 : Int32 → Int32 → Int32 → ab_S → Option (Int64 × ab_S)} {rc1 : Int32 → Int32 → Int32 → Int32 → ab_S → Option (Int64 × ab_S)} {V : Nat → Nat} (hE : EnM n A σc σ0) (n5 : n ≤ 5) (hs : s < 32) (hV : ∀ d, d < n → V d < 2 ^ 63) (hrec : ∀ d σ, d < n → frM σ0 σ (5 * (a + 1)) → ∃ σ', rc1 (nI h) (nI a) (nI d) (nI s) σ = some (lN (V d), σ') ∧ frM σ0 σ' (5 * (a + 1))) : ∀ (k j fuel : Nat) (σ : ab_S), j + k = n → k < fuel → frM σ0 σ (5 * (a + 1)) → ∃ σ', fX10_bestBy_b6 rc0 rc1 fuel (nI h) (nI a) (nI s) (lN (mx (fun d => if s.testBit d = true then 0 else V d) j)) (nI j) σ = some (lN (mx (fun d => if s.testBit d = true then 0 else V d) n), σ') ∧ frM σ0 σ' (5 * (a + 1)) := by
  intro k
  induction k with
  | zero =>
    intro j fuel σ h1 h2 hf
    obtain ⟨f, rfl⟩ : ∃ f, fuel = f + 1 := ⟨fuel - 1, by omega⟩
    refine ⟨σ, ?_, hf⟩
    show fX10_bestBy_b6_o _ _ _ _ _ _ _ _ _ = _
    unfold fX10_bestBy_b6_o
    rw [(EnM_fr hE hf).2.1, if_pos (pu_le (by omega)), show j = n by omega]
  | succ k ih =>
    intro j fuel σ h1 h2 hf
    obtain ⟨f, rfl⟩ : ∃ f, fuel = f + 1 := ⟨fuel - 1, by omega⟩
    show ∃ σ', fX10_bestBy_b6_o rc0 rc1 (fX10_bestBy_b6 rc0 rc1 f) _ _ _ _ _ σ = some (_, σ') ∧ _
    unfold fX10_bestBy_b6_o fX10_bestBy_b50 fX10_bestBy_b52
    have st : mx (fun d => if s.testBit d = true then 0 else V d) (j + 1) = if mx (fun d => if s.testBit d = true then 0 else V d) j < (if s.testBit j = true then 0 else V j) then (if s.testBit j = true then 0 else V j) else mx (fun d => if s.testBit d = true then 0 else V d) j := rfl
    have nx := fun σ1 => ih (j + 1) f σ1 (by omega) (by omega)
    have hmx : mx (fun d => if s.testBit d = true then 0 else V d) j < 2 ^ 63 := by
      have := mx_le (f := fun d => if s.testBit d = true then 0 else V d) (B := 2 ^ 63 - 1) j (fun d hd => by
        split
        · exact Nat.zero_le _
        · have := hV d (by omega); omega)
      omega
    rw [(EnM_fr hE hf).2.1, if_neg (pu_nle (by omega)), pu_isInM s hs j (by omega), Option.bind_some, nI_1]
    cases hb : s.testBit j with
    | true =>
      simp only [pu_10, ↓reduceIte]
      rw [hb, if_pos rfl, if_neg (by omega)] at st
      rw [st] at nx
      exact nx σ hf
    | false =>
      simp only [Bool.false_eq_true, ↓reduceIte]
      rw [hb, if_neg (show ¬ (false = true) by decide)] at st
      obtain ⟨σ1, q1, q2⟩ := hrec j σ (by omega) hf
      have hVj := hV j (by omega)
      rw [q1, Option.bind_some]
      dsimp only
      by_cases q : mx (fun d => if s.testBit d = true then 0 else V d) j < V j
      · rw [if_neg (fun z => by rw [lg_cmp_le, pk_lLE hVj hmx] at z; omega)]
        rw [if_pos q] at st
        rw [st] at nx
        exact nx σ1 q2
      · rw [if_pos (by rw [lg_cmp_le, pk_lLE hVj hmx]; omega)]
        rw [if_neg q] at st
        rw [st] at nx
        exact nx σ1 q2
theorem bnd {a k : Nat} (h : a + k ≤ 3) : 6 ^ k * (12 * 12 ^ (4 * a) * 12 ^ (4 * k)) < 2 ^ 63 := by
  have : 6 ^ k * (12 * 12 ^ (4 * a) * 12 ^ (4 * k)) ≤ 6 ^ 3 * (12 * 12 ^ 12) := by
    refine Nat.mul_le_mul (Nat.pow_le_pow_right (by decide) (by omega)) ?_
    rw [Nat.mul_assoc, ← Nat.pow_add]
    exact Nat.mul_le_mul_left _ (Nat.pow_le_pow_right (by decide) (by omega))
  omega
theorem bb_of (n5 : n ≤ 5) (hh : h < 4) (hA : A ≤ 3) {k f : Nat} (hT : ∀ a r c d x, tw σc h a r c d x ≤ 12)
    (H : ∀ (a s c : Nat) (w : Nat → Nat) (σ : ab_S), a + k = A → EnM n A σc σ → c < n → s < 32 → (∀ x, x < n → σ.2 13 0 (5 * a + x) = lN (w x)) → (∀ x, x < n → w x ≤ 12 * 12 ^ (4 * a)) → ∃ σ', (fzX10_bestBy f).2 (nI h) (nI a) (nI c) (nI s) σ = some (lN (HV 4 n 3 (tw σc h) k a s c w), σ') ∧ frM σ σ' (5 * (a + 1)))
    (a s : Nat) (c : Nat) (w : Nat → Nat) (σ : ab_S) (ak : a + k = A) (hE : EnM n A σc σ) (hs : s < 32) (hw : ∀ x, x < n → σ.2 13 0 (5 * a + x) = lN (w x)) (hb : ∀ x, x < n → w x ≤ 12 * 12 ^ (4 * a)) : ∃ σ', (fzX10_bestBy (f + 1)).1 (nI h) (nI a) (nI s) σ = some (lN (gv 4 n 3 (tw σc h) k a s c w), σ') ∧ frM σ σ' (5 * (a + 1)) := by
  rw [gv_HV3]
  refine bbl_L (rc0 := (fzX10_bestBy f).1) (rc1 := (fzX10_bestBy f).2) (V := fun d => HV 4 n 3 (tw σc h) k a s d w) hE n5 hs (fun d hd => ?_) (fun d σ1 hd hf => ?_) n 0 ab_N σ (by omega) (by rw [pu_N]; omega) frM_rfl
  · have h1 := HV_le (N := 4) (n := n) (T := tw σc h) (way := 3) (by omega) n5 (by omega) (by omega) hT (k := k) (a := a) (s := s) (c := d) (w := w) (M := 12 * 12 ^ (4 * a)) hd hb
    have h2 := bnd (a := a) (k := k) (by omega)
    omega
  · obtain ⟨σ2, q1, q2⟩ := H a s d w σ1 ak (EnM_fr hE hf) hd hs (fun x hx => by rw [hf.2.2 _ (by omega)]; exact hw x hx) hb
    exact ⟨σ2, q1, frM_tr hf q2 (Nat.le_refl _)⟩
theorem bw_ok (n5 : n ≤ 5) (hh : h < 4) (hA : A ≤ 3) (hT : ∀ a r c d x, tw σc h a r c d x ≤ 12) : ∀ (k fuel : Nat), 2 * k < fuel → ∀ (a s c : Nat) (w : Nat → Nat) (σ : ab_S), a + k = A → EnM n A σc σ → c < n → s < 32 → (∀ x, x < n → σ.2 13 0 (5 * a + x) = lN (w x)) → (∀ x, x < n → w x ≤ 12 * 12 ^ (4 * a)) → ∃ σ', (fzX10_bestBy fuel).2 (nI h) (nI a) (nI c) (nI s) σ = some (lN (HV 4 n 3 (tw σc h) k a s c w), σ') ∧ frM σ σ' (5 * (a + 1)) := by
  intro k
  induction k with
  | zero =>
    intro fuel h2 a s c w σ h1 hE hc hs hw hb
    obtain ⟨f, rfl⟩ : ∃ f, fuel = f + 1 := ⟨fuel - 1, by omega⟩
    refine ⟨σ, ?_, frM_rfl⟩
    show fX10_bestWith_o _ _ _ _ _ _ _ = some (lN (w (if (3 : Nat) = 1 then lo s c n 0 else c)), σ)
    unfold fX10_bestWith_o
    rw [if_pos (show ab_inb 6 7 = true from rfl), show ((6 : Int32)).toNatClampNeg = 6 from rfl, hE.2.2, if_pos (show nI a = nI A by rw [show a = A by omega]), pu_5, if_pos (inb_nI (by omega)), cl_nI (by omega), hw _ hc]
    rfl
  | succ k ih =>
    intro fuel h2 a s c w σ h1 hE hc hs hw hb
    obtain ⟨f, rfl⟩ : ∃ f, fuel = f + 2 := ⟨fuel - 2, by omega⟩
    have hrec : ∀ s' w' σ1, s' < 32 → frM σ σ1 (5 * (a + 1)) → (∀ x, x < n → σ1.2 13 0 (5 * (a + 1) + x) = lN (w' x)) → (∀ x, x < n → w' x ≤ 12 * 12 ^ (4 * a) * 12 ^ 4) → ∃ σ', (fzX10_bestBy (f + 1)).1 (nI h) (nI (a + 1)) (nI s') σ1 = some (lN (gv 4 n 3 (tw σc h) k (a + 1) s' c w'), σ') ∧ frM σ σ' (5 * (a + 1)) := fun s' w' σ1 hs' hf hw' hb' => by
      obtain ⟨σ', z1, z2⟩ := bb_of n5 hh hA hT (ih f (by omega)) (a + 1) s' c w' σ1 (by omega) (EnM_fr hE hf) hs' hw' (fun x hx => by
        have := hb' x hx
        rw [Nat.mul_assoc, ← Nat.pow_add] at this
        exact this)
      exact ⟨σ', z1, frM_tr hf z2 (by omega)⟩
    obtain ⟨σ1, q1, q2, q3⟩ := gb_ok (due := -1) hE n5 hh (show a < 3 by omega) hc hs (Or.inl rfl) hw (frM_rfl (σ := σ))
    have q3' : ∀ x, x < n → σ1.2 13 0 (5 * (a + 1) + x) = lN (w x * shN 4 n (fun d => tw σc h a (pc s) c d x) c s) := fun x hx => by rw [q3 x hx, sho_no]
    obtain ⟨σ2, z1, z2⟩ := hrec s (fun x => w x * shN 4 n (fun d => tw σc h a (pc s) c d x) c s) σ1 hs q2 q3' (fun x hx => Nat.mul_le_mul (hb x hx) (shN_le (by have := cnt_n (s := s) hc; omega)))
    obtain ⟨σ3, y1, y2⟩ := bwl_L (rc0 := (fzX10_bestBy (f + 1)).1) (rc1 := (fzX10_bestBy (f + 1)).2) (G := fun s' c' w' => gv 4 n 3 (tw σc h) k (a + 1) s' c' w') hE n5 hh (show a < 3 by omega) hc hs hT hw hb hrec n 0 1023 σ2 (by omega) (by omega) z2
    refine ⟨σ3, ?_, y2⟩
    rw [acw_n] at y1
    have e0 : acw n (tw σc h) a s c w (fun s' c' w' => gv 4 n 3 (tw σc h) k (a + 1) s' c' w') 0 = gv 4 n 3 (tw σc h) k (a + 1) s c (fun x => w x * shN 4 n (fun d => tw σc h a (pc s) c d x) c s) := Nat.add_zero _
    rw [e0] at y1
    show fX10_bestWith_o _ _ _ _ _ _ _ = some (lN (ac 4 n (tw σc h) a s c w _), _)
    unfold fX10_bestWith_o
    rw [if_pos (show ab_inb 6 7 = true from rfl), show ((6 : Int32)).toNatClampNeg = 6 from rfl, hE.2.2, if_neg (pu_ne (by omega)), ← y1]
    show fX10_bestWith_b28_o _ _ (fX10_bestWith_b28 (fzX10_bestBy (f + 1)).1 (fzX10_bestBy (f + 1)).2 1023) _ _ _ _ _ _ _ = _
    unfold fX10_bestWith_b28_o fX10_bestWith_b58 fX10_bestWith_b93 fX10_bestWith_b99
    rw [hE.2.1, if_neg (show ¬ nI n ≤ -1 from fun z => by
      rw [Int32.le_iff_toInt_le, nI_toInt (by omega), show ((-1 : Int32)).toInt = -1 from rfl] at z
      omega), if_pos (show (-1 : Int32) < 0 by decide), q1, Option.bind_some, if_neg (show ¬ (0 : Int32) ≤ -1 by decide), nI_1, z1, Option.bind_some, show (0 : Int64) + lN _ = lN _ from Int64.zero_add _]
    rfl
end
/-! the whole, and the start -/
theorem be_L {n : Nat} {W : Nat → Nat} {σ0 : ab_S} (hn : σ0.1 0 0 6 = nI n) (n5 : n ≤ 5) (hW : ∀ d, d < n → W d ≤ 12 ∧ σ0.1 1 0 d = nI (W d)) : ∀ (k j fuel : Nat) (σ : ab_S), j + k = n → k < fuel → frM σ0 σ 0 → (∀ x, x < j → σ.2 13 0 x = lN (W x)) → ∃ σ', fX10_begins1_b2 fuel (nI j) σ = some σ' ∧ frM σ0 σ' 0 ∧ (∀ x, x < n → σ'.2 13 0 x = lN (W x)) := by
  intro k
  induction k with
  | zero =>
    intro j fuel σ h1 h2 hf hx
    obtain ⟨f, rfl⟩ : ∃ f, fuel = f + 1 := ⟨fuel - 1, by omega⟩
    refine ⟨σ, ?_, hf, fun x h => hx x (by omega)⟩
    show fX10_begins1_b2_o _ _ _ = _
    unfold fX10_begins1_b2_o
    rw [mJ_get hf.1 rfl, hn, if_pos (pu_le (by omega))]
  | succ k ih =>
    intro j fuel σ h1 h2 hf hx
    obtain ⟨f, rfl⟩ : ∃ f, fuel = f + 1 := ⟨fuel - 1, by omega⟩
    obtain ⟨w1, w2⟩ := hW j (by omega)
    obtain ⟨σ', y1, y2, y3⟩ := ih (j + 1) f (ab_sl σ 13 0 j (lN (W j))) (by omega) (by omega) ⟨hf.1, fun r hr => by rw [pu_slR hr]; exact hf.2.1 r hr, fun e he => by omega⟩ (fun x h => by
      by_cases e : x = j
      · subst e; exact pu_slE
      · rw [pu_slJ e]; exact hx x (by omega))
    refine ⟨σ', ?_, y2, y3⟩
    show fX10_begins1_b2_o _ _ _ = _
    unfold fX10_begins1_b2_o
    rw [mJ_get hf.1 rfl, hn, if_neg (pu_nle (by omega)), if_pos (inb_nI (by omega)), if_pos (inb_nI (by omega)), pu_k, cl_nI (by omega), mJ_get hf.1 rfl, w2, nI_l (by omega), nI_1]
    exact y1
theorem wf_ok {n A h c way : Nat} {W : Nat → Nat} {σc σ : ab_S} (hE : EnM n A σc σ) (n5 : n ≤ 5) (hh : h < 4) (hA : A ≤ 3) (hway : way ≤ 2) (hc : c < n) (hW : ∀ d, d < n → W d ≤ 12 ∧ σ.1 1 0 d = nI (W d)) : ∃ σ', fX10_wonFrom (nI h) (nI way) (nI c) σ = some (lN (HV 4 n way (tw σc h) A 0 0 c W), σ') ∧ frM σ σ' 0 := by
  obtain ⟨σ1, q1, q2, q3⟩ := be_L (σ0 := σ) hE.2.1 n5 hW n 0 ab_N σ (by omega) (by rw [pu_N]; omega) frM_rfl (fun x h => by omega)
  obtain ⟨σ2, z1, z2⟩ := wb_ok (h := h) (way := way) n5 hh hA hway A 0 0 c 64 W σ1 (by omega) (by omega) (EnM_fr hE q2) hc (by omega) (fun x hx => by rw [Nat.mul_zero, Nat.zero_add]; exact q3 x hx)
  unfold fX10_wonFrom fX10_begins1 fX10_wonBy
  have q1' : fX10_begins1_b2 ab_N 0 σ = some σ1 := q1
  have z1' : fzX10_wonBy 64 (nI h) (nI way) 0 (nI c) 0 σ1 = _ := z1
  rw [q1', Option.bind_some, z1']
  exact ⟨σ2, rfl, frM_tr q2 z2 (by omega)⟩
theorem wo_M {n A : Nat} {W : Nat → Nat} {σ : ab_S} (hn : σ.1 0 0 6 = nI n) (hAs : σ.1 1 0 6 = nI A) (n5 : n ≤ 5) (hA : A ≤ 3) (hW : ∀ d, d < n → W d ≤ 12 ∧ σ.1 1 0 d = nI (W d)) : fX10_wholeOf σ = some (lN (sm W n * 12 ^ (4 * A))) := by
  have L : ∀ (k j fuel : Nat), j + k = A → k < fuel → fX10_wholeOf_b8 fuel (lN (sm W n * 12 ^ (4 * j))) (nI j) σ = some (lN (sm W n * 12 ^ (4 * A))) := by
    intro k
    induction k with
    | zero =>
      intro j fuel h1 h2
      obtain ⟨f, rfl⟩ : ∃ f, fuel = f + 1 := ⟨fuel - 1, by omega⟩
      show fX10_wholeOf_b8_o _ _ _ _ = _
      unfold fX10_wholeOf_b8_o
      rw [if_pos (show ab_inb 6 7 = true from rfl), show ((6 : Int32)).toNatClampNeg = 6 from rfl, hAs, if_pos (pu_le (by omega)), show j = A by omega]
    | succ k ih =>
      intro j fuel h1 h2
      obtain ⟨f, rfl⟩ : ∃ f, fuel = f + 1 := ⟨fuel - 1, by omega⟩
      show fX10_wholeOf_b8_o _ _ _ _ = _
      unfold fX10_wholeOf_b8_o fX10_wholeAct
      have := ih (j + 1) f (by omega) (by omega)
      rw [show 4 * (j + 1) = 4 * j + 4 by omega, Nat.pow_add, ← Nat.mul_assoc] at this
      rw [if_pos (show ab_inb 6 7 = true from rfl), show ((6 : Int32)).toNatClampNeg = 6 from rfl, hAs, if_neg (pu_nle (by omega)), Option.bind_some, show (20736 : Int64) = lN (12 ^ 4) from rfl, lN_mul, nI_1]
      exact this
  have sb := sm_le (f := W) (B := 12) n (fun d hd => (hW d hd).1)
  unfold fX10_wholeOf
  rw [al_m hn n5 (fun d hd => (hW d hd).2), Option.bind_some, nI_l (by omega)]
  have := L A 0 ab_N (by omega) (by rw [pu_N]; omega)
  rw [Nat.mul_zero, Nat.pow_zero, Nat.mul_one] at this
  exact this
