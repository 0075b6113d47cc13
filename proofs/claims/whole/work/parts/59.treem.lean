/-! PURE, 28: acts to come, the reference -/
def frM (σ0 σ : ab_S) (b : Nat) : Prop := mJ σ = mJ σ0 ∧ (∀ r, r ≠ 13 → σ.2 r = σ0.2 r) ∧ (∀ e, e < b → σ.2 13 0 e = σ0.2 13 0 e)
theorem frM_rfl {σ : ab_S} {b : Nat} : frM σ σ b := ⟨rfl, fun _ _ => rfl, fun _ _ => rfl⟩
theorem frM_tr {σ0 σ1 σ2 : ab_S} {b b' : Nat} (h : frM σ0 σ1 b) (h' : frM σ1 σ2 b') (hb : b ≤ b') : frM σ0 σ2 b :=
  ⟨h'.1.trans h.1, fun r hr => (h'.2.1 r hr).trans (h.2.1 r hr), fun e he => (h'.2.2 e (by omega)).trans (h.2.2 e he)⟩
theorem frM_mM {σ0 σ : ab_S} {b : Nat} (h : frM σ0 σ b) : mM σ = mM σ0 := mM_J h.1 (h.2.1 22 (by omega))
def EnM (n A : Nat) (σc σ : ab_S) : Prop := R_lw n σc σ ∧ σ.1 0 0 6 = nI n ∧ σ.1 1 0 6 = nI A
theorem EnM_fr {n A b : Nat} {σc σ0 σ : ab_S} (h : EnM n A σc σ0) (hf : frM σ0 σ b) : EnM n A σc σ :=
  ⟨R_lw_fr h.1 rfl (frM_mM hf), by rw [mJ_get hf.1 rfl]; exact h.2.1, by rw [mJ_get hf.1 rfl]; exact h.2.2⟩
theorem pu_5 {a x : Nat} : (5 : Int32) * nI a + nI x = nI (5 * a + x) := by
  rw [show (5 : Int32) = nI 5 from rfl, pk_mul, nI_add]
theorem lo_M {n s c : Nat} {σ : ab_S} (hn : σ.1 0 0 6 = nI n) (n5 : n ≤ 5) (hs : s < 32) (hc : c < n) : ∀ (k j fuel : Nat), j + k = n → k < fuel → fX10_leastOther_b2 fuel (nI c) (nI s) (nI j) σ = some (nI (lo s c k j)) := by
  intro k
  induction k with
  | zero =>
    intro j fuel h1 h2
    obtain ⟨f, rfl⟩ : ∃ f, fuel = f + 1 := ⟨fuel - 1, by omega⟩
    show fX10_leastOther_b2_o _ _ _ _ _ = _
    unfold fX10_leastOther_b2_o
    rw [hn, if_pos (pu_le (by omega))]
    rfl
  | succ k ih =>
    intro j fuel h1 h2
    obtain ⟨f, rfl⟩ : ∃ f, fuel = f + 1 := ⟨fuel - 1, by omega⟩
    show fX10_leastOther_b2_o _ _ _ _ _ = _
    unfold fX10_leastOther_b2_o fX10_leastOther_b25 lo
    rw [hn, if_neg (pu_nle (by omega)), nI_1]
    by_cases hjc : j = c
    · rw [if_pos (by rw [hjc]), if_neg (by rw [hjc]; simp [el])]
      exact ih (j + 1) f (by omega) (by omega)
    · rw [if_neg (pu_ne hjc), pu_isInM s hs j (by omega), Option.bind_some, el_isIn hjc]
      cases s.testBit j with
      | true =>
        simp only [pu_10, ↓reduceIte, Bool.not_true, Bool.false_eq_true]
        exact ih (j + 1) f (by omega) (by omega)
      | false => simp
theorem leM {n s c : Nat} {σ : ab_S} (hn : σ.1 0 0 6 = nI n) (n5 : n ≤ 5) (hs : s < 32) (hc : c < n) : fX10_leastOther (nI c) (nI s) σ = some (nI (lo s c n 0)) :=
  lo_M hn n5 hs hc n 0 ab_N (by omega) (by rw [pu_N]; omega)
section
variable {n A h a c s way : Nat} {w : Nat → Nat} {σc : ab_S}
theorem gb_L {σ0 : ab_S} {due : Int32} (hE : EnM n A σc σ0) (n5 : n ≤ 5) (hh : h < 4) (ha : a < 3) (hc : c < n) (hs : s < 32) (hd : DU n c s due) (hw : ∀ x, x < n → σ0.2 13 0 (5 * a + x) = lN (w x)) : ∀ (k x fuel : Nat) (σ : ab_S), x + k = n → k < fuel → frM σ0 σ (5 * (a + 1)) → (∀ y, y < x → σ.2 13 0 (5 * (a + 1) + y) = lN (w y * sho 4 n (fun d => tw σc h a (pc s) c d y) c s due)) →
    ∃ σ', fX10_goesBy_b3 fuel (nI h) (nI a) (nI c) (nI s) due (nI x) σ = some σ' ∧ frM σ0 σ' (5 * (a + 1)) ∧ (∀ y, y < n → σ'.2 13 0 (5 * (a + 1) + y) = lN (w y * sho 4 n (fun d => tw σc h a (pc s) c d y) c s due)) := by
  intro k
  induction k with
  | zero =>
    intro x fuel σ h1 h2 hf hy
    obtain ⟨f, rfl⟩ : ∃ f, fuel = f + 1 := ⟨fuel - 1, by omega⟩
    refine ⟨σ, ?_, hf, fun y h => hy y (by omega)⟩
    show fX10_goesBy_b3_o _ _ _ _ _ _ _ _ = _
    unfold fX10_goesBy_b3_o
    rw [(EnM_fr hE hf).2.1, if_pos (pu_le (by omega))]
  | succ k ih =>
    intro x fuel σ h1 h2 hf hy
    obtain ⟨f, rfl⟩ : ∃ f, fuel = f + 1 := ⟨fuel - 1, by omega⟩
    have hEs := EnM_fr hE hf
    obtain ⟨σ1, q1, q2⟩ := shM_ok (n := n) (h := h) (a := a) (s := s) (x := x) (c := c) (σc := σc) (σm := σ) hEs.1 hEs.2.1 n5 hh hs hc (by omega) hd
    have hold : σ.2 13 0 (5 * a + x) = lN (w x) := by rw [hf.2.2 _ (by omega)]; exact hw x (by omega)
    have hf1 : frM σ σ1 (5 * (a + 1) + x + 1) := ⟨mJ_G q2, fun r _ => by rw [G_2 q2], fun e _ => by rw [G_2 q2]⟩
    obtain ⟨σ', y1, y2, y3⟩ := ih (x + 1) f (ab_sl σ1 13 0 (5 * (a + 1) + x) (lN (w x * sho 4 n (fun d => tw σc h a (pc s) c d x) c s due))) (by omega) (by omega) ⟨hf1.1.trans hf.1, fun r hr => by rw [pu_slR hr]; exact (hf1.2.1 r hr).trans (hf.2.1 r hr), fun e he => by rw [pu_slJ (by omega)]; exact (hf1.2.2 e (by omega)).trans (hf.2.2 e he)⟩ (fun y hyx => by
      by_cases e : y = x
      · subst e; exact pu_slE
      · rw [pu_slJ (by omega), hf1.2.2 _ (by omega)]; exact hy y (by omega))
    refine ⟨σ', ?_, y2, y3⟩
    show fX10_goesBy_b3_o _ _ _ _ _ _ _ _ = _
    unfold fX10_goesBy_b3_o
    rw [hEs.2.1, if_neg (pu_nle (by omega)), nI_1, pu_5, pu_5, if_pos (inb_nI (by omega)), q1, Option.bind_some, if_pos (inb_nI (by omega)), pu_k, cl_nI (by omega), cl_nI (by omega), hold, lN_mul, nI_1]
    exact y1
theorem gb_ok {σ0 σ : ab_S} {due : Int32} (hE : EnM n A σc σ0) (n5 : n ≤ 5) (hh : h < 4) (ha : a < 3) (hc : c < n) (hs : s < 32) (hd : DU n c s due) (hw : ∀ x, x < n → σ0.2 13 0 (5 * a + x) = lN (w x)) (hf : frM σ0 σ (5 * (a + 1))) : ∃ σ', fX10_goesBy (nI h) (nI a) (nI c) (nI s) due σ = some σ' ∧ frM σ0 σ' (5 * (a + 1)) ∧ (∀ y, y < n → σ'.2 13 0 (5 * (a + 1) + y) = lN (w y * sho 4 n (fun d => tw σc h a (pc s) c d y) c s due)) :=
  gb_L hE n5 hh ha hc hs hd hw n 0 ab_N σ (by omega) (by rw [pu_N]; omega) hf (fun y hy => by omega)
/-- the value behind an act: none first -/
def acw (n : Nat) (T : Nat → Nat → Nat → Nat → Nat → Nat) (a s c : Nat) (w : Nat → Nat) (G : Nat → Nat → (Nat → Nat) → Nat) (j : Nat) : Nat :=
  G s c (fun x => w x * shN 4 n (fun d => T a (pc s) c d x) c s) + sm (fun D => if el c s D = true then G (s ||| 2 ^ D) c (fun x => w x * shD 4 (fun d => T a (pc s) c d x) c s D) else 0) j
theorem acw_n {T : Nat → Nat → Nat → Nat → Nat → Nat} {G : Nat → Nat → (Nat → Nat) → Nat} : acw n T a s c w G n = ac 4 n T a s c w G := by
  unfold acw ac
  rw [Nat.add_comm]
theorem el_DU {D : Nat} (hD : D < n) (he : el c s D = true) : DU n c s (nI D) := Or.inr ⟨D, hD, rfl, he⟩
theorem wl_L {σ0 : ab_S} {rc0 : Int32 → Int32 → Int32 → Int32 → Int32 → ab_S → Option (Int64 × ab_S)} {G : Nat → Nat → (Nat → Nat) → Nat} (hE : EnM n A σc σ0) (n5 : n ≤ 5) (hh : h < 4) (ha : a < 3) (hc : c < n) (hs : s < 32) (hway : way ≤ 2) (hw : ∀ x, x < n → σ0.2 13 0 (5 * a + x) = lN (w x)) (hrec : ∀ s' w' σ, s' < 32 → frM σ0 σ (5 * (a + 1)) → (∀ x, x < n → σ.2 13 0 (5 * (a + 1) + x) = lN (w' x)) → ∃ σ', rc0 (nI h) (nI way) (nI (a + 1)) (nI (if way = 2 then lo s' c n 0 else c)) (nI s') σ = some (lN (G s' c w'), σ') ∧ frM σ0 σ' (5 * (a + 1))) : ∀ (k j fuel : Nat) (σ : ab_S), j + k = n → k < fuel → frM σ0 σ (5 * (a + 1)) → ∃ σ', fX10_wonBy_b45 rc0 fuel (nI h) (nI way) (nI a) (nI c) (nI s) (lN (acw n (tw σc h) a s c w G j)) (nI j) σ = some (lN (acw n (tw σc h) a s c w G n), σ') ∧ frM σ0 σ' (5 * (a + 1)) := by
  intro k
  induction k with
  | zero =>
    intro j fuel σ h1 h2 hf
    obtain ⟨f, rfl⟩ : ∃ f, fuel = f + 1 := ⟨fuel - 1, by omega⟩
    refine ⟨σ, ?_, hf⟩
    show fX10_wonBy_b45_o _ _ _ _ _ _ _ _ _ _ = _
    unfold fX10_wonBy_b45_o
    rw [(EnM_fr hE hf).2.1, if_pos (pu_le (by omega)), show j = n by omega]
  | succ k ih =>
    intro j fuel σ h1 h2 hf
    obtain ⟨f, rfl⟩ : ∃ f, fuel = f + 1 := ⟨fuel - 1, by omega⟩
    show ∃ σ', fX10_wonBy_b45_o rc0 (fX10_wonBy_b45 rc0 f) _ _ _ _ _ _ _ σ = some (_, σ') ∧ _
    unfold fX10_wonBy_b45_o fX10_wonBy_b76 fX10_wonBy_b105 fX10_wonBy_b133 fX10_wonBy_b141
    have st : acw n (tw σc h) a s c w G (j + 1) = acw n (tw σc h) a s c w G j + (if el c s j = true then G (s ||| 2 ^ j) c (fun x => w x * shD 4 (fun d => tw σc h a (pc s) c d x) c s j) else 0) := by
      unfold acw
      rw [show sm (fun D => if el c s D = true then G (s ||| 2 ^ D) c (fun x => w x * shD 4 (fun d => tw σc h a (pc s) c d x) c s D) else 0) (j + 1) = _ + _ from rfl, Nat.add_assoc]
    rw [(EnM_fr hE hf).2.1, if_neg (pu_nle (by omega)), if_neg (pu_n1l (by omega)), nI_1, nI_1]
    by_cases hjc : j = c
    · rw [if_pos (by rw [hjc])]
      rw [if_neg (by rw [hjc]; simp [el])] at st
      have := ih (j + 1) f σ (by omega) (by omega) hf
      rw [st] at this
      exact this
    · rw [if_neg (pu_ne hjc), pu_isInM s hs j (by omega), Option.bind_some]
      have hel := el_isIn (c := c) (s := s) hjc
      cases hb : s.testBit j with
      | true =>
        simp only [pu_10, ↓reduceIte]
        rw [hb] at hel
        rw [if_neg (by rw [hel]; decide)] at st
        have := ih (j + 1) f σ (by omega) (by omega) hf
        rw [st] at this
        exact this
      | false =>
        simp only [Bool.false_eq_true, ↓reduceIte]
        rw [hb] at hel
        have he : el c s j = true := by rw [hel]; rfl
        rw [if_pos he] at st
        obtain ⟨σ1, q1, q2, q3⟩ := gb_ok hE n5 hh ha hc hs (el_DU (by omega) he) hw hf
        have hor := pu_or s hs j (by omega)
        have q3' : ∀ x, x < n → σ1.2 13 0 (5 * (a + 1) + x) = lN (w x * shD 4 (fun d => tw σc h a (pc s) c d x) c s j) := fun x hx => by rw [q3 x hx, sho_D (by omega)]
        obtain ⟨σ2, z1, z2⟩ := hrec (s ||| 2 ^ j) (fun x => w x * shD 4 (fun d => tw σc h a (pc s) c d x) c s j) σ1 hor.2 q2 q3'
        rw [q1, Option.bind_some, if_pos (show (0 : Int32) ≤ nI j from pu_le (a := 0) (by omega)), hor.1, leM (EnM_fr hE q2).2.1 n5 hor.2 hc, Option.bind_some]
        have fin := ih (j + 1) f σ2 (by omega) (by omega) z2
        rw [st, ← lN_add] at fin
        by_cases w2 : way = 2
        · rw [if_pos (by rw [w2]; rfl)]
          rw [if_pos w2] at z1
          rw [z1]
          exact fin
        · rw [if_neg (show ¬ nI way = 2 from pl_ne (b := 2) w2)]
          rw [if_neg w2] at z1
          rw [z1]
          exact fin
theorem wb_ok (n5 : n ≤ 5) (hh : h < 4) (hA : A ≤ 3) (hway : way ≤ 2) : ∀ (k a s c fuel : Nat) (w : Nat → Nat) (σ : ab_S), a + k = A → k < fuel → EnM n A σc σ → c < n → s < 32 → (∀ x, x < n → σ.2 13 0 (5 * a + x) = lN (w x)) → ∃ σ', fzX10_wonBy fuel (nI h) (nI way) (nI a) (nI c) (nI s) σ = some (lN (HV 4 n way (tw σc h) k a s c w), σ') ∧ frM σ σ' (5 * (a + 1)) := by
  intro k
  induction k with
  | zero =>
    intro a s c fuel w σ h1 h2 hE hc hs hw
    obtain ⟨f, rfl⟩ : ∃ f, fuel = f + 1 := ⟨fuel - 1, by omega⟩
    refine ⟨σ, ?_, frM_rfl⟩
    have hl := lo_lt (s := s) hc n 0 (by omega)
    show fX10_wonBy_o _ _ _ _ _ _ _ = _
    unfold fX10_wonBy_o fX10_wonBy_b36
    rw [if_pos (show ab_inb 6 7 = true from rfl), show ((6 : Int32)).toNatClampNeg = 6 from rfl, hE.2.2, if_pos (show nI a = nI A by rw [show a = A by omega]), leM hE.2.1 n5 hs hc, Option.bind_some, pu_5, pu_5]
    show _ = some (lN (w (if way = 1 then lo s c n 0 else c)), σ)
    by_cases w1 : way = 1
    · rw [if_pos (by rw [w1]; rfl), if_pos w1, if_pos (inb_nI (by omega)), cl_nI (by omega), hw _ hl]
    · rw [if_neg (show ¬ nI way = 1 from pl_ne (b := 1) w1), if_neg w1, if_pos (inb_nI (by omega)), cl_nI (by omega), hw _ hc]
  | succ k ih =>
    intro a s c fuel w σ h1 h2 hE hc hs hw
    obtain ⟨f, rfl⟩ : ∃ f, fuel = f + 1 := ⟨fuel - 1, by omega⟩
    have hrec : ∀ s' w' σ1, s' < 32 → frM σ σ1 (5 * (a + 1)) → (∀ x, x < n → σ1.2 13 0 (5 * (a + 1) + x) = lN (w' x)) → ∃ σ', fzX10_wonBy f (nI h) (nI way) (nI (a + 1)) (nI (if way = 2 then lo s' c n 0 else c)) (nI s') σ1 = some (lN (gv 4 n way (tw σc h) k (a + 1) s' c w'), σ') ∧ frM σ σ' (5 * (a + 1)) := fun s' w' σ1 hs' hf hw' => by
      have hl := lo_lt (s := s') hc n 0 (by omega)
      obtain ⟨σ', z1, z2⟩ := ih (a + 1) s' (if way = 2 then lo s' c n 0 else c) f w' σ1 (by omega) (by omega) (EnM_fr hE hf) (by split; exact hl; exact hc) hs' hw'
      rw [← gv_HV hway] at z1
      exact ⟨σ', z1, frM_tr hf z2 (by omega)⟩
    obtain ⟨σ1, q1, q2, q3⟩ := gb_ok (due := -1) hE n5 hh (show a < 3 by omega) hc hs (Or.inl rfl) hw (frM_rfl (σ := σ))
    have q3' : ∀ x, x < n → σ1.2 13 0 (5 * (a + 1) + x) = lN (w x * shN 4 n (fun d => tw σc h a (pc s) c d x) c s) := fun x hx => by rw [q3 x hx, sho_no]
    obtain ⟨σ2, z1, z2⟩ := hrec s (fun x => w x * shN 4 n (fun d => tw σc h a (pc s) c d x) c s) σ1 hs q2 q3'
    obtain ⟨σ3, y1, y2⟩ := wl_L (rc0 := fzX10_wonBy f) (G := fun s' c' w' => gv 4 n way (tw σc h) k (a + 1) s' c' w') hE n5 hh (show a < 3 by omega) hc hs hway hw hrec n 0 1023 σ2 (by omega) (by omega) z2
    refine ⟨σ3, ?_, y2⟩
    rw [acw_n] at y1
    have e0 : acw n (tw σc h) a s c w (fun s' c' w' => gv 4 n way (tw σc h) k (a + 1) s' c' w') 0 = gv 4 n way (tw σc h) k (a + 1) s c (fun x => w x * shN 4 n (fun d => tw σc h a (pc s) c d x) c s) := Nat.add_zero _
    rw [e0] at y1
    show fX10_wonBy_o _ _ _ _ _ _ _ = some (lN (ac 4 n (tw σc h) a s c w _), _)
    unfold fX10_wonBy_o
    rw [if_pos (show ab_inb 6 7 = true from rfl), show ((6 : Int32)).toNatClampNeg = 6 from rfl, hE.2.2, if_neg (pu_ne (by omega)), ← y1]
    show fX10_wonBy_b45_o _ (fX10_wonBy_b45 (fzX10_wonBy f) 1023) _ _ _ _ _ _ _ _ = _
    unfold fX10_wonBy_b45_o fX10_wonBy_b76 fX10_wonBy_b105 fX10_wonBy_b133 fX10_wonBy_b141
    rw [hE.2.1, if_neg (show ¬ nI n ≤ -1 from fun z => by
      rw [Int32.le_iff_toInt_le, nI_toInt (by omega), show ((-1 : Int32)).toInt = -1 from rfl] at z
      omega), if_pos (show (-1 : Int32) < 0 by decide), q1, Option.bind_some, if_neg (show ¬ (0 : Int32) ≤ -1 by decide), leM (EnM_fr hE q2).2.1 n5 hs hc, Option.bind_some, nI_1]
    by_cases w2 : way = 2
    · rw [if_pos (by rw [w2]; rfl)]
      rw [if_pos w2] at z1
      rw [z1, Option.bind_some, show (0 : Int64) + lN _ = lN _ from Int64.zero_add _]
      rfl
    · rw [if_neg (show ¬ nI way = 2 from pl_ne (b := 2) w2)]
      rw [if_neg w2] at z1
      rw [z1, Option.bind_some, show (0 : Int64) + lN _ = lN _ from Int64.zero_add _]
      rfl
end
