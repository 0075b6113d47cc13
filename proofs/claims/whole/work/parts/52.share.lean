/-! PURE, 21: the share of an act -/
def ee (c d : Nat) : Nat := if c < d then d - 1 else d
theorem cnt_ee {c s : Nat} : ∀ d : Nat, cnt c s d ≤ ee c d
  | 0 => by simp [cnt]
  | d + 1 => by
    have ih := cnt_ee (c := c) (s := s) d
    unfold cnt
    unfold ee at ih ⊢
    by_cases h : el c s d = true
    · rw [if_pos h]
      have hdc : d ≠ c := fun e => by subst e; simp [el] at h
      split at ih <;> split <;> omega
    · rw [if_neg h]
      split at ih <;> split <;> omega
theorem cnt_mono {c s : Nat} {d : Nat} : ∀ k : Nat, cnt c s d ≤ cnt c s (d + k)
  | 0 => Nat.le_refl _
  | k + 1 => by
    have := cnt_mono (c := c) (s := s) (d := d) k
    show _ ≤ (if el c s (d + k) = true then cnt c s (d + k) + 1 else cnt c s (d + k))
    split <;> omega
theorem cnt_n {c s n : Nat} (hc : c < n) : cnt c s n ≤ n - 1 := by
  have := cnt_ee (c := c) (s := s) n
  unfold ee at this
  rw [if_pos hc] at this
  exact this
theorem cnt_D {c s n D : Nat} (hc : c < n) (hD : D < n) (he : el c s D = true) : cnt c s D + 1 ≤ n - 1 := by
  have h1 := cnt_mono (c := c) (s := s) (d := D + 1) (n - (D + 1))
  rw [show D + 1 + (n - (D + 1)) = n by omega] at h1
  have h2 := cnt_n (s := s) hc
  have h3 : cnt c s (D + 1) = cnt c s D + 1 := by
    show (if el c s D = true then _ else _) = _
    rw [if_pos he]
  omega
theorem pre_le {g : Nat → Nat} {c s : Nat} : ∀ d : Nat, pre g c s d ≤ 12 ^ cnt c s d
  | 0 => Nat.le_refl _
  | d + 1 => by
    have ih := pre_le (g := g) (c := c) (s := s) d
    unfold pre cnt
    by_cases h : el c s d = true
    · rw [if_pos h, if_pos h, Nat.pow_succ]
      exact Nat.mul_le_mul ih (Nat.sub_le 12 (g d))
    · rw [if_neg h, if_neg h]
      exact ih
def sho (N n : Nat) (g : Nat → Nat) (c s : Nat) (due : Int32) : Nat := if due < 0 then shN N n g c s else shD N g c s due.toNatClampNeg
theorem sho_no {N n : Nat} {g : Nat → Nat} {c s : Nat} : sho N n g c s (-1) = shN N n g c s := if_pos (by decide)
theorem sho_D {N n : Nat} {g : Nat → Nat} {c s D : Nat} (h : D < 2 ^ 31) : sho N n g c s (nI D) = shD N g c s D := by
  unfold sho
  rw [if_neg (pu_n1l h), cl_nI h]
theorem shN_le {N n : Nat} {g : Nat → Nat} {c s : Nat} (h : cnt c s n ≤ N) : shN N n g c s ≤ 12 ^ N := by
  unfold shN
  have := pre_le (g := g) (c := c) (s := s) n
  calc pre g c s n * 12 ^ (N - cnt c s n) ≤ 12 ^ cnt c s n * 12 ^ (N - cnt c s n) := Nat.mul_le_mul_right _ this
    _ = 12 ^ N := by rw [← Nat.pow_add]; congr 1; omega
theorem shD_le {N : Nat} {g : Nat → Nat} {c s D : Nat} (h : cnt c s D + 1 ≤ N) (hg : g D ≤ 12) : shD N g c s D ≤ 12 ^ N := by
  unfold shD
  have := pre_le (g := g) (c := c) (s := s) D
  calc pre g c s D * g D * 12 ^ (N - cnt c s D - 1) ≤ 12 ^ cnt c s D * 12 * 12 ^ (N - cnt c s D - 1) := Nat.mul_le_mul_right _ (Nat.mul_le_mul this hg)
    _ = 12 ^ N := by rw [← Nat.pow_succ, ← Nat.pow_add]; congr 1; omega
theorem shN_sc {n : Nat} {g : Nat → Nat} {c s : Nat} (hc : c < n) (h5 : n ≤ 5) : shN 4 n g c s = 12 ^ (5 - n) * shN (n - 1) n g c s := by
  have := cnt_n (s := s) hc
  unfold shN
  rw [Nat.mul_left_comm, ← Nat.pow_add]
  congr 2
  omega
theorem shD_sc {n : Nat} {g : Nat → Nat} {c s D : Nat} (hc : c < n) (h5 : n ≤ 5) (hD : D < n) (he : el c s D = true) : shD 4 g c s D = 12 ^ (5 - n) * shD (n - 1) g c s D := by
  have := cnt_D hc hD he
  unfold shD
  rw [Nat.mul_left_comm, ← Nat.pow_add]
  congr 2
  omega
/-- what may be opened -/
def DU (n c s : Nat) (due : Int32) : Prop := due = -1 ∨ ∃ D, D < n ∧ due = nI D ∧ el c s D = true
theorem sho_sc {n : Nat} {g : Nat → Nat} {c s : Nat} {due : Int32} (hc : c < n) (h5 : n ≤ 5) (hd : DU n c s due) : sho 4 n g c s due = 12 ^ (5 - n) * sho (n - 1) n g c s due := by
  rcases hd with rfl | ⟨D, hD, rfl, he⟩
  · rw [sho_no, sho_no, shN_sc hc h5]
  · rw [sho_D (by omega), sho_D (by omega), shD_sc hc h5 hD he]
theorem sho_le {N n : Nat} {g : Nat → Nat} {c s : Nat} {due : Int32} (hc : c < n) (h5 : n ≤ 5) (hN : n - 1 ≤ N) (hg : ∀ d, g d ≤ 12) (hd : DU n c s due) : sho N n g c s due ≤ 12 ^ N := by
  have := cnt_n (s := s) hc
  rcases hd with rfl | ⟨D, hD, rfl, he⟩
  · rw [sho_no]
    exact shN_le (by omega)
  · have := cnt_D hc hD he
    rw [sho_D (by omega)]
    exact shD_le (by omega) (hg D)
theorem el_isIn {c s d : Nat} (hdc : d ≠ c) : el c s d = !s.testBit d := by
  unfold el
  rw [decide_eq_false hdc]
  rfl
theorem pu_12 {v : Nat} (h : v ≤ 12) : ((12 : Int32) - nI v).toInt64 = lN (12 - v) := by
  rw [show (12 : Int32) = nI 12 from rfl, pk_sub h, nI_l (by omega)]
/-- the class: behind the door that was opened -/
theorem sc_2 {n : Nat} {σ : ab_S} (hn : σ.1 1 0 3 = nI n) (n5 : n ≤ 5) {v1 v2 v3 v5 v6 v7 : Int32} {c : Nat} (hc : c < n) : ∀ (k j fuel v : Nat), j + k = n → k < fuel → fX1_shareOf_b24 fuel v1 v2 v3 (nI c) v5 v6 v7 (lN v) 0 (nI j) σ = some (lN (v * 12 ^ (ee c n - ee c j)), σ) := by
  intro k
  induction k with
  | zero =>
    intro j fuel v h1 h2
    obtain ⟨f, rfl⟩ : ∃ f, fuel = f + 1 := ⟨fuel - 1, by omega⟩
    show fX1_shareOf_b24_o _ _ _ _ _ _ _ _ _ _ _ _ = _
    unfold fX1_shareOf_b24_o
    rw [hn, if_pos (pu_le (by omega)), show j = n by omega, Nat.sub_self, Nat.pow_zero, Nat.mul_one]
  | succ k ih =>
    intro j fuel v h1 h2
    obtain ⟨f, rfl⟩ : ∃ f, fuel = f + 1 := ⟨fuel - 1, by omega⟩
    show fX1_shareOf_b24_o _ _ _ _ _ _ _ _ _ _ _ _ = _
    unfold fX1_shareOf_b24_o fX1_shareOf_b60 fX1_shareOf_b127
    rw [hn, if_neg (pu_nle (by omega)), nI_1]
    by_cases hjc : j = c
    · have he : ee c (j + 1) = ee c j := by unfold ee; split <;> split <;> omega
      rw [if_pos (by rw [hjc]), ih (j + 1) f v (by omega) (by omega), he]
    · have he : ee c (j + 1) = ee c j + 1 := by unfold ee; split <;> split <;> omega
      have hn1 : ee c n = n - 1 := by unfold ee; rw [if_pos hc]
      have hj1 : ee c j + 1 ≤ n - 1 := by unfold ee; split <;> omega
      rw [if_neg (pu_ne hjc), if_pos rfl, show (12 : Int64) = lN 12 from rfl, lN_mul, ih (j + 1) f (v * 12) (by omega) (by omega), he, Nat.mul_assoc, ← Nat.pow_succ', show (ee c n - (ee c j + 1)).succ = ee c n - ee c j by omega]
theorem sc_1 {n h a s x : Nat} {σ0 : ab_S} (hL : LwOK σ0) (hn : σ0.1 1 0 3 = nI n) (n5 : n ≤ 5) (hh : h < 4) (ha : a ≤ 3) (hs : s < 32) {c : Nat} (hc : c < n) (hx : x < 5) {due : Int32} (hd : due = -1 ∨ ∃ D, due = nI D ∧ D < n) : ∀ (k j fuel : Nat) (σ : ab_S), j + k = n → k < fuel → mT σ = mT σ0 → R_gv σ → (∀ D, due = nI D → D < n → el c s D = true ∧ j ≤ D) →
    ∃ σ', fX1_shareOf_b24 fuel (nI h) (nI a) (nI s) (nI c) due (nI x) (nI (pc s)) (lN (pre (fun d => tw σ0 h a (pc s) c d x) c s j * 12 ^ (ee c j - cnt c s j))) 1 (nI j) σ = some (lN (sho (n - 1) n (fun d => tw σ0 h a (pc s) c d x) c s due), σ') ∧ mT σ' = mT σ0 ∧ R_gv σ' := by
  intro k
  induction k with
  | zero =>
    intro j fuel σ h1 h2 hm hg hD
    obtain ⟨f, rfl⟩ : ∃ f, fuel = f + 1 := ⟨fuel - 1, by omega⟩
    refine ⟨σ, ?_, hm, hg⟩
    show fX1_shareOf_b24_o _ _ _ _ _ _ _ _ _ _ _ _ = _
    unfold fX1_shareOf_b24_o
    rw [mT_get hm rfl, hn, if_pos (pu_le (by omega))]
    rcases hd with rfl | ⟨D, rfl, hDn⟩
    · rw [sho_no, show j = n by omega]
      unfold shN ee
      rw [if_pos hc]
    · have := (hD D rfl hDn).2
      omega
  | succ k ih =>
    intro j fuel σ h1 h2 hm hg hD
    obtain ⟨f, rfl⟩ : ∃ f, fuel = f + 1 := ⟨fuel - 1, by omega⟩
    have hce := cnt_ee (c := c) (s := s) j
    show ∃ σ', fX1_shareOf_b24_o (fX1_shareOf_b24 f) _ _ _ _ _ _ _ _ _ _ _ = some (_, σ') ∧ _
    unfold fX1_shareOf_b24_o fX1_shareOf_b60 fX1_shareOf_b103 fX1_shareOf_b124 fX1_shareOf_b127
    rw [mT_get hm rfl, hn, if_neg (pu_nle (by omega)), nI_1]
    have hDj : ∀ D, due = nI D → D < n → j ≠ D → el c s D = true ∧ j + 1 ≤ D := fun D e1 e2 e3 => ⟨(hD D e1 e2).1, by have := (hD D e1 e2).2; omega⟩
    have hpre : pre (fun d => tw σ0 h a (pc s) c d x) c s (j + 1) = if el c s j = true then pre (fun d => tw σ0 h a (pc s) c d x) c s j * (12 - tw σ0 h a (pc s) c j x) else pre (fun d => tw σ0 h a (pc s) c d x) c s j := rfl
    have hcnt : cnt c s (j + 1) = if el c s j = true then cnt c s j + 1 else cnt c s j := rfl
    by_cases hjc : j = c
    · rw [if_pos (by rw [hjc])]
      have he : ¬ el c s j = true := by rw [hjc]; simp [el]
      have := ih (j + 1) f σ (by omega) (by omega) hm hg (fun D e1 e2 => hDj D e1 e2 (fun z => he (by rw [z]; exact (hD D e1 e2).1)))
      rw [hpre, hcnt, if_neg he, if_neg he, show ee c (j + 1) = ee c j by unfold ee; split <;> split <;> omega] at this
      exact this
    · rw [if_neg (pu_ne hjc), if_neg pu_10, pu_isInC s hs j (by omega), Option.bind_some]
      have hee : ee c (j + 1) = ee c j + 1 := by unfold ee; split <;> split <;> omega
      have hel := el_isIn (c := c) (s := s) hjc
      cases hb : s.testBit j with
      | true =>
        simp only [pu_10, ↓reduceIte]
        rw [hb] at hel
        have he : ¬ el c s j = true := by rw [hel]; decide
        have := ih (j + 1) f σ (by omega) (by omega) hm hg (fun D e1 e2 => hDj D e1 e2 (fun z => he (by rw [z]; exact (hD D e1 e2).1)))
        rw [hpre, hcnt, if_neg he, if_neg he, hee, show ee c j + 1 - cnt c s j = (ee c j - cnt c s j) + 1 by omega, Nat.pow_succ, ← Nat.mul_assoc] at this
        rw [show (12 : Int64) = lN 12 from rfl, lN_mul]
        exact this
      | false =>
        simp only [Bool.false_eq_true, ↓reduceIte]
        rw [hb] at hel
        have he : el c s j = true := by rw [hel]; rfl
        rw [if_pos (inb_nI hh), cl_nI (by omega)]
        obtain ⟨σ1, q1, q2, q3⟩ := tw_ok hg (lwok_T hm hL) hh ha (pu_pcC s hs).2 (show c < 5 by omega) (show j < 5 by omega) hx
        rw [tw_T hm] at q1
        have tl : tw σ0 h a (pc s) c j x ≤ 12 := twV_le _ _ _ _ _ _ _ _ _
        rw [q1, Option.bind_some]
        have hm1 := q2.trans hm
        by_cases hdj : nI j = due
        · rw [if_pos hdj]
          dsimp only
          rw [nI_l (by omega), lN_mul]
          subst hdj
          rw [sc_2 (by rw [mT_get hm1 rfl]; exact hn) n5 hc k (j + 1) f _ (by omega) (by omega), sho_D (by omega)]
          refine ⟨σ1, ?_, hm1, q3⟩
          have hcD := cnt_D hc (show j < n by omega) he
          unfold shD
          have key : ∀ P G A B : Nat, P * 12 ^ A * G * 12 ^ B = P * G * 12 ^ (A + B) := fun P G A B => by rw [Nat.pow_add, Nat.mul_right_comm P (12 ^ A) G, Nat.mul_assoc (P * G)]
          have h2 : ee c n = n - 1 := by unfold ee; rw [if_pos hc]
          have h3 : ee c j + 1 ≤ n - 1 := by unfold ee; split <;> omega
          rw [key, show ee c j - cnt c s j + (ee c n - ee c (j + 1)) = n - 1 - cnt c s j - 1 by omega]
        · rw [if_neg hdj, if_neg pu_10]
          dsimp only
          rw [pu_12 tl, lN_mul]
          have := ih (j + 1) f σ1 (by omega) (by omega) hm1 q3 (fun D e1 e2 => hDj D e1 e2 (fun z => hdj (by rw [z, e1])))
          rw [hpre, hcnt, if_pos he, if_pos he, hee, show ee c j + 1 - (cnt c s j + 1) = ee c j - cnt c s j by omega, Nat.mul_right_comm] at this
          exact this
theorem shC_ok {n h a s x : Nat} {σ : ab_S} (hg : R_gv σ) (hL : LwOK σ) (hn : σ.1 1 0 3 = nI n) (n5 : n ≤ 5) (hh : h < 4) (ha : a ≤ 3) (hs : s < 32) {c : Nat} (hc : c < n) (hx : x < 5) {due : Int32} (hd : DU n c s due) : ∃ σ', fX1_shareOf (nI h) (nI a) (nI s) (nI c) due (nI x) σ = some (lN (sho (n - 1) n (fun d => tw σ h a (pc s) c d x) c s due), σ') ∧ mT σ' = mT σ ∧ R_gv σ' := by
  unfold fX1_shareOf
  rw [pu_isHost_yes hh, Option.bind_some, if_neg pu_10, (pu_pcC s hs).1, Option.bind_some]
  have hd1 : due = -1 ∨ ∃ D, due = nI D ∧ D < n := by
    rcases hd with e | ⟨D, h1, h2, -⟩
    · exact Or.inl e
    · exact Or.inr ⟨D, h2, h1⟩
  have hd2 : ∀ D, due = nI D → D < n → el c s D = true ∧ 0 ≤ D := fun D e1 e2 => by
    rcases hd with e | ⟨D', h1, h2, h3⟩
    · rw [e1] at e
      exact absurd e (pu_n1 (by omega))
    · rw [e1] at h2
      have := (nI_eq (by omega) (by omega)).mp h2
      subst this
      exact ⟨h3, by omega⟩
  have := sc_1 hL hn n5 hh ha hs hc hx hd1 n 0 ab_N σ (by omega) (by rw [pu_N]; omega) rfl hg hd2
  rw [show lN (pre (fun d => tw σ h a (pc s) c d x) c s 0 * 12 ^ (ee c 0 - cnt c s 0)) = (1 : Int64) from by
    have e0 : ee c 0 = 0 := by unfold ee; split <;> omega
    rw [e0]; rfl, show nI 0 = (0 : Int32) from rfl] at this
  exact this
/-- the reference: padding -/
theorem sm_pad {σ : ab_S} {v6 v9 : Int32} : ∀ (k f fuel v : Nat), f + k = 4 → k < fuel → fX10_actIs_b104 fuel v6 (lN v) v9 (nI f) σ = (if v6 < 0 then some (lN (v * 12 ^ (4 - f)), σ) else if v9 = 0 then some (0, σ) else some (lN (v * 12 ^ (4 - f)), σ)) := by
  intro k
  induction k with
  | zero =>
    intro j fuel v h1 h2
    obtain ⟨f, rfl⟩ : ∃ f, fuel = f + 1 := ⟨fuel - 1, by omega⟩
    show fX10_actIs_b104_o _ _ _ _ _ _ = _
    unfold fX10_actIs_b104_o fX10_actIs_b134 fX10_actIs_b140
    rw [if_pos (pr_le (b := 4) (by omega)), show j = 4 by omega, Nat.sub_self, Nat.pow_zero, Nat.mul_one]
  | succ k ih =>
    intro j fuel v h1 h2
    obtain ⟨f, rfl⟩ : ∃ f, fuel = f + 1 := ⟨fuel - 1, by omega⟩
    show fX10_actIs_b104_o _ _ _ _ _ _ = _
    unfold fX10_actIs_b104_o
    rw [if_neg (pr_nle (b := 4) (by omega)), show (12 : Int64) = lN 12 from rfl, lN_mul, nI_1, ih (j + 1) f (v * 12) (by omega) (by omega), Nat.mul_assoc, ← Nat.pow_succ', show (4 - (j + 1)).succ = 4 - j by omega]
theorem am_2 {n : Nat} {σ : ab_S} (hn : σ.1 0 0 6 = nI n) (n5 : n ≤ 5) {v1 v2 v5 v6 : Int32} {c s : Nat} (hs : s < 32) {V : Int64} {fc : Int32} : ∀ (k j fuel : Nat), j + k = n → k < fuel → fX10_actIs_b12 fuel v1 v2 (nI c) (nI s) v5 v6 V 1 fc (nI j) σ = fX10_actIs_b104 ab_N v6 V 1 fc σ := by
  intro k
  induction k with
  | zero =>
    intro j fuel h1 h2
    obtain ⟨f, rfl⟩ : ∃ f, fuel = f + 1 := ⟨fuel - 1, by omega⟩
    show fX10_actIs_b12_o _ _ _ _ _ _ _ _ _ _ _ _ = _
    unfold fX10_actIs_b12_o
    rw [hn, if_pos (pu_le (by omega))]
  | succ k ih =>
    intro j fuel h1 h2
    obtain ⟨f, rfl⟩ : ∃ f, fuel = f + 1 := ⟨fuel - 1, by omega⟩
    show fX10_actIs_b12_o _ _ _ _ _ _ _ _ _ _ _ _ = _
    unfold fX10_actIs_b12_o fX10_actIs_b98
    rw [hn, if_neg (pu_nle (by omega)), nI_1, ih (j + 1) f (by omega) (by omega), pu_isInM s hs j (by omega), Option.bind_some, if_neg pu_10]
    by_cases h1 : nI j = nI c
    · rw [if_pos h1]
    · rw [if_neg h1]
      cases s.testBit j
      · simp only [Bool.false_eq_true, ↓reduceIte]
      · simp only [pu_10, ↓reduceIte]
theorem am_1 {n h a s x : Nat} {σc σm : ab_S} (hlw : R_lw n σc σm) (hn : σm.1 0 0 6 = nI n) (n5 : n ≤ 5) (hh : h < 4) (hs : s < 32) {c : Nat} (hc : c < n) (hx : x < 5) {due : Int32} (hd : due = -1 ∨ ∃ D, due = nI D ∧ D < n) : ∀ (k j fuel : Nat) (σ : ab_S), j + k = n → k < fuel → mG σ = mG σm → (∀ D, due = nI D → D < n → el c s D = true ∧ j ≤ D) →
    ∃ σ', fX10_actIs_b12 fuel (nI h) (nI x) (nI c) (nI s) (nI a) due (lN (pre (fun d => tw σc h a (pc s) c d x) c s j)) 0 (nI (cnt c s j)) (nI j) σ = some (lN (sho 4 n (fun d => tw σc h a (pc s) c d x) c s due), σ') ∧ mG σ' = mG σm := by
  intro k
  induction k with
  | zero =>
    intro j fuel σ h1 h2 hm hD
    obtain ⟨f, rfl⟩ : ∃ f, fuel = f + 1 := ⟨fuel - 1, by omega⟩
    refine ⟨σ, ?_, hm⟩
    have hcn := cnt_n (s := s) hc
    show fX10_actIs_b12_o _ _ _ _ _ _ _ _ _ _ _ _ = _
    unfold fX10_actIs_b12_o
    rw [mG_get hm rfl, hn, if_pos (pu_le (by omega)), show j = n by omega, sm_pad (4 - cnt c s n) (cnt c s n) ab_N _ (by omega) (by rw [pu_N]; omega)]
    rcases hd with rfl | ⟨D, rfl, hDn⟩
    · rw [if_pos (by decide), sho_no]
      rfl
    · have := (hD D rfl hDn).2
      omega
  | succ k ih =>
    intro j fuel σ h1 h2 hm hD
    obtain ⟨f, rfl⟩ : ∃ f, fuel = f + 1 := ⟨fuel - 1, by omega⟩
    show ∃ σ', fX10_actIs_b12_o (fX10_actIs_b12 f) _ _ _ _ _ _ _ _ _ _ _ = some (_, σ') ∧ _
    unfold fX10_actIs_b12_o fX10_actIs_b78 fX10_actIs_b96 fX10_actIs_b98
    rw [mG_get hm rfl, hn, if_neg (pu_nle (by omega)), nI_1]
    have hDj : ∀ D, due = nI D → D < n → j ≠ D → el c s D = true ∧ j + 1 ≤ D := fun D e1 e2 e3 => ⟨(hD D e1 e2).1, by have := (hD D e1 e2).2; omega⟩
    have hpre : pre (fun d => tw σc h a (pc s) c d x) c s (j + 1) = if el c s j = true then pre (fun d => tw σc h a (pc s) c d x) c s j * (12 - tw σc h a (pc s) c j x) else pre (fun d => tw σc h a (pc s) c d x) c s j := rfl
    have hcnt : cnt c s (j + 1) = if el c s j = true then cnt c s j + 1 else cnt c s j := rfl
    by_cases hjc : j = c
    · rw [if_pos (by rw [hjc])]
      have he : ¬ el c s j = true := by rw [hjc]; simp [el]
      have := ih (j + 1) f σ (by omega) (by omega) hm (fun D e1 e2 => hDj D e1 e2 (fun z => he (by rw [z]; exact (hD D e1 e2).1)))
      rw [hpre, hcnt, if_neg he, if_neg he] at this
      exact this
    · rw [if_neg (pu_ne hjc), pu_isInM s hs j (by omega), Option.bind_some]
      have hel := el_isIn (c := c) (s := s) hjc
      cases hb : s.testBit j with
      | true =>
        simp only [pu_10, ↓reduceIte]
        rw [hb] at hel
        have he : ¬ el c s j = true := by rw [hel]; decide
        have := ih (j + 1) f σ (by omega) (by omega) hm (fun D e1 e2 => hDj D e1 e2 (fun z => he (by rw [z]; exact (hD D e1 e2).1)))
        rw [hpre, hcnt, if_neg he, if_neg he] at this
        exact this
      | false =>
        simp only [Bool.false_eq_true, ↓reduceIte]
        rw [hb] at hel
        have he : el c s j = true := by rw [hel]; rfl
        obtain ⟨σ1, q1, q2⟩ := gives_ok (R_lw_fr hlw rfl (mM_G hm)) (by rw [mG_get hm rfl]; exact hn) (h := h) (d := j) (x := x) (c := c) (s := s) (a := a) hh (by omega) hx hs
        have tl : tw σc h a (pc s) c j x ≤ 12 := twV_le _ _ _ _ _ _ _ _ _
        rw [q1, Option.bind_some]
        have hm1 := q2.trans hm
        by_cases hdj : nI j = due
        · rw [if_pos hdj, if_pos hdj]
          dsimp only
          rw [nI_l (by omega), lN_mul, nI_1]
          subst hdj
          have hcD := cnt_D hc (show j < n by omega) he
          rw [am_2 (by rw [mG_get hm1 rfl]; exact hn) n5 hs k (j + 1) f (by omega) (by omega), sm_pad (4 - (cnt c s j + 1)) (cnt c s j + 1) ab_N _ (by omega) (by rw [pu_N]; omega), if_neg (pu_n1l (by omega)), if_neg pu_10, sho_D (by omega)]
          refine ⟨σ1, ?_, hm1⟩
          unfold shD
          rw [show 4 - (cnt c s j + 1) = 4 - cnt c s j - 1 by omega]
        · rw [if_neg hdj, if_neg hdj]
          dsimp only
          rw [pu_12 tl, lN_mul, nI_1]
          have := ih (j + 1) f σ1 (by omega) (by omega) hm1 (fun D e1 e2 => hDj D e1 e2 (fun z => hdj (by rw [z, e1])))
          rw [hpre, hcnt, if_pos he, if_pos he] at this
          exact this
theorem shM_ok {n h a s x : Nat} {σc σm : ab_S} (hlw : R_lw n σc σm) (hn : σm.1 0 0 6 = nI n) (n5 : n ≤ 5) (hh : h < 4) (hs : s < 32) {c : Nat} (hc : c < n) (hx : x < 5) {due : Int32} (hd : DU n c s due) : ∃ σ', fX10_actIs (nI h) (nI x) (nI c) (nI s) (nI a) due σm = some (lN (sho 4 n (fun d => tw σc h a (pc s) c d x) c s due), σ') ∧ mG σ' = mG σm := by
  have hd1 : due = -1 ∨ ∃ D, due = nI D ∧ D < n := by
    rcases hd with e | ⟨D, h1, h2, -⟩
    · exact Or.inl e
    · exact Or.inr ⟨D, h2, h1⟩
  have hd2 : ∀ D, due = nI D → D < n → el c s D = true ∧ 0 ≤ D := fun D e1 e2 => by
    rcases hd with e | ⟨D', h1, h2, h3⟩
    · rw [e1] at e
      exact absurd e (pu_n1 (by omega))
    · rw [e1] at h2
      have := (nI_eq (by omega) (by omega)).mp h2
      subst this
      exact ⟨h3, by omega⟩
  exact am_1 hlw hn n5 hh hs hc hx hd1 n 0 ab_N σm (by omega) (by rw [pu_N]; omega) rfl hd2
