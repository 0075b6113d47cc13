/-! PURE, 13: a partner -/
def ahd (W : Nat → Nat) (o d : Nat) : Bool := decide (W d < W o) || (decide (W o = W d) && decide (o < d))
def ctp (p : Nat → Bool) : Nat → Nat
  | 0 => 0
  | n + 1 => if p n = true then ctp p n + 1 else ctp p n
theorem ctp_le {p q : Nat → Bool} : ∀ n : Nat, (∀ o, o < n → p o = true → q o = true) → ctp p n ≤ ctp q n
  | 0, _ => Nat.le_refl _
  | n + 1, h => by
    have ih := ctp_le n (fun o ho => h o (by omega))
    unfold ctp
    by_cases hp : p n = true
    · rw [if_pos hp, if_pos (h n (by omega) hp)]; omega
    · rw [if_neg hp]; split <;> omega
theorem ctp_lt {p q : Nat → Bool} {d : Nat} (hq : q d = true) (hp : ¬ p d = true) : ∀ n : Nat, d < n → (∀ o, o < n → p o = true → q o = true) → ctp p n < ctp q n
  | 0, hd, _ => by omega
  | n + 1, hd, h => by
    unfold ctp
    by_cases hdn : d = n
    · subst hdn
      have := ctp_le d (fun o ho => h o (by omega))
      rw [if_neg hp, if_pos hq]; omega
    · have ih := ctp_lt hq hp n (by omega) (fun o ho => h o (by omega))
      by_cases hpn : p n = true
      · rw [if_pos hpn, if_pos (h n (by omega) hpn)]; omega
      · rw [if_neg hpn]; split <;> omega
theorem ctp_n (p : Nat → Bool) : ∀ n : Nat, ctp p n ≤ n
  | 0 => Nat.le_refl _
  | n + 1 => by
    have := ctp_n p n
    unfold ctp
    split <;> omega
def rnk (W : Nat → Nat) (n d : Nat) : Nat := ctp (fun o => ahd W o d) n
theorem ahd_t {W : Nat → Nat} {a b c : Nat} (h1 : ahd W a b = true) (h2 : ahd W b c = true) : ahd W a c = true := by
  simp only [ahd, Bool.or_eq_true, Bool.and_eq_true, decide_eq_true_eq] at h1 h2 ⊢
  omega
theorem ahd_i {W : Nat → Nat} (a : Nat) : ¬ ahd W a a = true := by
  simp only [ahd, Bool.or_eq_true, Bool.and_eq_true, decide_eq_true_eq]
  omega
theorem ahd_c {W : Nat → Nat} {a b : Nat} (h : a ≠ b) : ahd W a b = true ∨ ahd W b a = true := by
  simp only [ahd, Bool.or_eq_true, Bool.and_eq_true, decide_eq_true_eq]
  omega
theorem rnk_lt {W : Nat → Nat} {n a b : Nat} (ha : a < n) (h : ahd W a b = true) : rnk W n a < rnk W n b :=
  ctp_lt (p := fun o => ahd W o a) (q := fun o => ahd W o b) (d := a) h (ahd_i a) n ha (fun o _ ho => ahd_t ho h)
theorem rnk_ex {W : Nat → Nat} : ∀ n k : Nat, k < n → ∃ d, d < n ∧ rnk W n d = k
  | 0, k, h => by omega
  | n + 1, k, h => by
    have ih := rnk_ex (W := W) n
    have hr : rnk W (n + 1) n = rnk W n n := by
      show (if ahd W n n = true then _ else _) = _
      rw [if_neg (ahd_i n)]
      rfl
    have hd : ∀ d, rnk W (n + 1) d = if ahd W n d = true then rnk W n d + 1 else rnk W n d := fun d => rfl
    have hrn : rnk W n n ≤ n := ctp_n _ n
    have key : ∀ d, d < n → ahd W n d = true → rnk W n n ≤ rnk W n d := fun d hdn h1 => ctp_le n (fun o _ ho => ahd_t ho h1)
    have key2 : ∀ d, d < n → ahd W d n = true → rnk W n d < rnk W n n := fun d hdn h1 => rnk_lt hdn h1
    rcases Nat.lt_trichotomy k (rnk W n n) with q | q | q
    · obtain ⟨d, hdn, e⟩ := ih k (by omega)
      refine ⟨d, by omega, ?_⟩
      rw [hd, if_neg (fun z => by have := key d hdn z; omega)]
      exact e
    · exact ⟨n, by omega, by rw [hr]; exact q.symm⟩
    · obtain ⟨d, hdn, e⟩ := ih (k - 1) (by omega)
      refine ⟨d, by omega, ?_⟩
      rw [hd, if_pos ?_]
      · omega
      · rcases ahd_c (W := W) (show n ≠ d by omega) with z | z
        · exact z
        · have := key2 d hdn z
          omega
/-- the greatest of L among the first n, the least of like ones -/
def am (L : Nat → Nat) : Nat → Nat
  | 0 => 0
  | d + 1 => if L (am L d) < L d then d else am L d
theorem am_lt (L : Nat → Nat) : ∀ n : Nat, 0 < n → am L n < n
  | 0, h => by omega
  | n + 1, _ => by
    unfold am
    split
    · omega
    · by_cases h : n = 0
      · subst h; simp [am]
      · have := am_lt L n (by omega); omega
theorem am_max (L : Nat → Nat) : ∀ n : Nat, (∀ d, d < n → L d ≤ L (am L n)) ∧ (∀ d, d < am L n → L d < L (am L n) ∨ n = 0)
  | 0 => ⟨fun d h => by omega, fun d _ => Or.inr rfl⟩
  | n + 1 => by
    obtain ⟨h1, h2⟩ := am_max L n
    unfold am
    by_cases h : L (am L n) < L n
    · rw [if_pos h]
      refine ⟨fun d hd => ?_, fun d hd => Or.inl ?_⟩
      · by_cases e : d = n
        · subst e; omega
        · have := h1 d (by omega); omega
      · have := h1 d hd; omega
    · rw [if_neg h]
      refine ⟨fun d hd => ?_, fun d hd => ?_⟩
      · by_cases e : d = n
        · subst e; omega
        · exact h1 d (by omega)
      · rcases h2 d hd with q | q
        · exact Or.inl q
        · subst q
          simp [am] at hd
theorem sm_one {f g : Nat → Nat} {a v : Nat} : ∀ n : Nat, a < n → f a + v = g a → (∀ d, d < n → d ≠ a → f d = g d) → sm f n + v = sm g n
  | 0, h, _, _ => by omega
  | n + 1, h, h1, h2 => by
    unfold sm
    by_cases e : a = n
    · subst e
      rw [sm_congr a (fun d hd => h2 d (by omega) (by omega))]
      omega
    · have := sm_one n (by omega) h1 (fun d hd he => h2 d (by omega) he)
      have := h2 n (by omega) (fun z => e z.symm)
      omega
def tops (W : Nat → Nat) (n k : Nat) : Nat := sm (fun d => if rnk W n d < k then W d else 0) n
/-- one step of picking the greatest -/
theorem tops_step {W L : Nat → Nat} {n k : Nat} (h0 : 0 < n) (hL : ∀ d, d < n → L d = if rnk W n d < k then 0 else W d) : tops W n k + L (am L n) = tops W n (k + 1) ∧ ∀ d, d < n → (if d = am L n then 0 else L d) = if rnk W n d < k + 1 then 0 else W d := by
  obtain ⟨m1, m2⟩ := am_max L n
  have hg := am_lt L n h0
  generalize am L n = g at m1 m2 hg
  by_cases hz : L g = 0
  · have hW : ∀ d, d < n → ¬ rnk W n d < k → W d = 0 := fun d hd hk => by
      have := m1 d hd
      rw [hL d hd, if_neg hk] at this
      omega
    refine ⟨?_, fun d hd => ?_⟩
    · rw [hz, Nat.add_zero]
      refine sm_congr n (fun d hd => ?_)
      by_cases h1 : rnk W n d < k
      · rw [if_pos h1, if_pos (by omega)]
      · rw [if_neg h1]
        split
        · rw [hW d hd h1]
        · rfl
    · by_cases e : d = g
      · subst e
        rw [if_pos rfl]
        split
        · rfl
        · exact (hW d hd (by omega)).symm
      · rw [if_neg e, hL d hd]
        by_cases h1 : rnk W n d < k
        · rw [if_pos h1, if_pos (by omega)]
        · rw [if_neg h1]
          split
          · exact hW d hd h1
          · rfl
  · have hgk : ¬ rnk W n g < k := fun z => hz (by rw [hL g hg, if_pos z])
    have hLg : L g = W g := by rw [hL g hg, if_neg hgk]
    have hge : ∀ o, o < n → ahd W o g = true → rnk W n o < k := fun o ho h1 => by
      rcases Nat.lt_or_ge (rnk W n o) k with q | q
      · exact q
      · exfalso
        have h2 := m1 o ho
        rw [hL o ho, if_neg (by omega), hLg] at h2
        simp only [ahd, Bool.or_eq_true, Bool.and_eq_true, decide_eq_true_eq] at h1
        rcases h1 with h1 | ⟨h1, h3⟩
        · omega
        · rcases m2 o h3 with h4 | h4
          · rw [hL o ho, if_neg (by omega), hLg] at h4
            omega
          · omega
    have hrk : rnk W n g = k := by
      rcases Nat.lt_or_ge k (rnk W n g) with q | q
      · exfalso
        have hgn : rnk W n g ≤ n := ctp_n _ n
        obtain ⟨e, he, h1⟩ := rnk_ex (W := W) n k (by omega)
        have hne : e ≠ g := fun z => by subst z; omega
        rcases ahd_c (W := W) hne with z | z
        · have := hge e he z
          omega
        · have := rnk_lt (n := n) hg z
          omega
      · omega
    have huq : ∀ d, d < n → d ≠ g → rnk W n d ≠ k := fun d hd hne h1 => by
      rcases ahd_c (W := W) hne with z | z
      · have := rnk_lt (n := n) hd z
        omega
      · have := rnk_lt (n := n) hg z
        omega
    refine ⟨?_, fun d hd => ?_⟩
    · refine sm_one n hg ?_ (fun d hd hne => ?_)
      · rw [hrk, if_neg (by omega), if_pos (by omega), hLg]
        omega
      · have := huq d hd hne
        by_cases h1 : rnk W n d < k
        · rw [if_pos h1, if_pos (by omega)]
        · rw [if_neg h1, if_neg (by omega)]
    · by_cases e : d = g
      · subst e
        rw [if_pos rfl, if_pos (by omega)]
      · rw [if_neg e, hL d hd]
        have := huq d hd e
        by_cases h1 : rnk W n d < k
        · rw [if_pos h1, if_pos (by omega)]
        · rw [if_neg h1, if_neg (by omega)]
theorem tops_0 (W : Nat → Nat) (n : Nat) : tops W n 0 = 0 := by
  unfold tops
  rw [sm_congr (g := fun _ => 0) n (fun d _ => if_neg (by omega))]
  induction n with
  | zero => rfl
  | succ n ih => unfold sm; omega
/-- the class's inner loop -/
theorem gt_I {n : Nat} {L : Nat → Nat} {kk : Int32 → Int32 → Int32 → ab_S → Option (Int32 × ab_S)} {v1 v2 v3 : Int32} {σ : ab_S} (hn : σ.1 1 0 3 = nI n) (n0 : 0 < n) (n5 : n ≤ 5) (hL : ∀ d, d < n → L d ≤ 12 ∧ σ.1 4 0 d = nI (L d)) : ∀ (k j fuel : Nat), 1 ≤ j → j + k = n → k < fuel → fX7_greatestTogether_b32 kk fuel v1 v2 v3 (nI (am L j)) (nI j) σ = kk v1 (v2 + nI (L (am L n))) (v3 + 1) (ab_si σ 4 0 (am L n) 0) := by
  intro k
  induction k with
  | zero =>
    intro j fuel h0 h1 h2
    obtain ⟨f, rfl⟩ : ∃ f, fuel = f + 1 := ⟨fuel - 1, by omega⟩
    have hj : j = n := by omega
    subst hj
    have hg := am_lt L j n0
    show fX7_greatestTogether_b32_o _ _ _ _ _ _ _ _ = _
    unfold fX7_greatestTogether_b32_o
    simp only [hn, pu_le (Nat.le_refl j), ↓reduceIte, inb_nI (show am L j < 5 by omega), cl_nI (d := am L j) (by omega), pu_k]
    rw [(hL _ hg).2]
  | succ k ih =>
    intro j fuel h0 h1 h2
    obtain ⟨f, rfl⟩ : ∃ f, fuel = f + 1 := ⟨fuel - 1, by omega⟩
    have hg := am_lt L j (by omega)
    show fX7_greatestTogether_b32_o _ _ _ _ _ _ _ _ = _
    unfold fX7_greatestTogether_b32_o fX7_greatestTogether_b62
    rw [hn, if_neg (pu_nle (by omega)), if_pos (inb_nI (by omega)), if_pos (inb_nI (show am L j < 5 by omega)), cl_nI (d := j) (by omega), cl_nI (d := am L j) (by omega), (hL _ (show am L j < n by omega)).2, (hL j (by omega)).2, nI_1]
    have a1 := (hL _ (show am L j < n by omega)).1
    have a2 := (hL j (by omega)).1
    have ham : am L (j + 1) = if L (am L j) < L j then j else am L j := rfl
    by_cases h : L (am L j) < L j
    · rw [if_neg (pu_nle h)]
      rw [if_pos h] at ham
      have := ih (j + 1) f (by omega) (by omega) (by omega)
      rw [ham] at this
      exact this
    · rw [if_pos (pu_le (by omega))]
      rw [if_neg h] at ham
      have := ih (j + 1) f (by omega) (by omega) (by omega)
      rw [ham] at this
      exact this
theorem gt_O {n m : Nat} {W : Nat → Nat} (n0 : 1 < n) (n5 : n ≤ 5) (hm : m ≤ 5) (hW : ∀ d, d < 5 → W d ≤ 12) : ∀ (k j fuel : Nat) (L : Nat → Nat) (σ : ab_S), j + k = m → k < fuel → σ.1 1 0 3 = nI n → (∀ d, d < n → L d ≤ 12 ∧ σ.1 4 0 d = nI (L d)) → (∀ d, d < n → L d = if rnk W n d < j then 0 else W d) → ∃ σ', fX7_greatestTogether_b21 fuel (nI m) (nI (tops W n j)) (nI j) σ = some (nI (tops W n m), σ') ∧ mB σ' = mB σ ∧ mV σ' = mV σ := by
  intro k
  induction k with
  | zero =>
    intro j fuel L σ h1 h2 hn hL hL2
    obtain ⟨f, rfl⟩ : ∃ f, fuel = f + 1 := ⟨fuel - 1, by omega⟩
    refine ⟨σ, ?_, rfl, rfl⟩
    show fX7_greatestTogether_b21_o _ _ _ _ _ = _
    unfold fX7_greatestTogether_b21_o
    rw [if_pos (pu_le (by omega)), show j = m by omega]
  | succ k ih =>
    intro j fuel L σ h1 h2 hn hL hL2
    obtain ⟨f, rfl⟩ : ∃ f, fuel = f + 1 := ⟨fuel - 1, by omega⟩
    have hg := am_lt L n (by omega)
    obtain ⟨s1, s2⟩ := tops_step (W := W) (by omega) hL2
    obtain ⟨σ', q1, q2, q3⟩ := ih (j + 1) f (fun d => if d = am L n then 0 else L d) (ab_si σ 4 0 (am L n) 0) (by omega) (by omega) hn (fun d hd => by
      by_cases e : d = am L n
      · rw [if_pos e]
        subst e
        exact ⟨by omega, pu_siE⟩
      · rw [if_neg e, pu_siJ e]
        exact hL d hd) s2
    refine ⟨σ', ?_, q2.trans (mB_si rfl), ?_⟩
    · show fX7_greatestTogether_b21_o _ _ _ _ _ = _
      unfold fX7_greatestTogether_b21_o
      rw [if_neg (pu_nle (by omega))]
      have := gt_I (kk := fX7_greatestTogether_b21 f) (v1 := nI m) (v2 := nI (tops W n j)) (v3 := nI j) hn (by omega) n5 hL (n - 1) 1 ab_N (by omega) (by omega) (by rw [pu_N]; omega)
      rw [show am L 1 = 0 by simp [am], show nI 0 = (0 : Int32) from rfl, show nI 1 = (1 : Int32) from rfl, nI_add, s1, nI_1] at this
      rw [this]
      exact q1
    · rw [q3]
      refine Prod.ext ?_ rfl
      funext a b c
      show (if keepV a c = true then (if a = 4 ∧ b = 0 ∧ c = am L n then 0 else σ.1 a b c) else 0) = (if keepV a c = true then σ.1 a b c else 0)
      by_cases hb : keepV a c = true
      · rw [if_pos hb, if_pos hb, if_neg (fun e => by rw [e.1] at hb; simp [keepV] at hb)]
      · rw [if_neg hb, if_neg hb]
theorem gt_c {n m : Nat} {W : Nat → Nat} {σ : ab_S} (n0 : 1 < n) (n5 : n ≤ 5) (hm : m ≤ 5) (hW : ∀ d, d < 5 → W d ≤ 12) (hn : σ.1 1 0 3 = nI n) (hw : ∀ d, d < 5 → σ.1 2 0 d = nI (W d)) : ∃ σ', fX7_greatestTogether (nI m) σ = some (nI (tops W n m), σ') ∧ mB σ' = mB σ ∧ mV σ' = mV σ := by
  unfold fX7_greatestTogether
  have cpb : ab_cpb 0 0 (nI n) 5 5 = true := by
    unfold ab_cpb
    rw [decide_eq_true_eq, cl_nI (d := n) (by omega), show ((0 : Int32)).toNatClampNeg = 0 from rfl]
    exact ⟨by decide, by decide, pu_n1l, by omega, by omega⟩
  rw [hn, if_pos cpb, cl_nI (d := n) (by omega), pu_k]
  have h4 : ∀ d, d < n → (ab_ci σ 2 0 ((0 : Int32).toNatClampNeg) 4 0 ((0 : Int32).toNatClampNeg) n).1 4 0 d = nI (W d) := fun d hd => by
    show (if 4 = 4 ∧ 0 = 0 ∧ 0 ≤ d ∧ d < 0 + n then σ.1 2 0 (0 + (d - 0)) else σ.1 4 0 d) = _
    rw [if_pos ⟨rfl, rfl, by omega, by omega⟩, show 0 + (d - 0) = d by omega]
    exact hw d (by omega)
  obtain ⟨σ', q1, q2, q3⟩ := gt_O (W := W) n0 n5 hm hW m 0 ab_N W (ab_ci σ 2 0 ((0 : Int32).toNatClampNeg) 4 0 ((0 : Int32).toNatClampNeg) n) (by omega) (by rw [pu_N]; omega) hn (fun d hd => ⟨hW d (by omega), h4 d hd⟩) (fun d hd => by rw [if_neg (by omega)])
  rw [tops_0, show nI 0 = (0 : Int32) from rfl] at q1
  refine ⟨σ', q1, ?_, ?_⟩
  · rw [q2]
    refine Prod.ext ?_ rfl
    funext a b c
    show (if keepB a c = true then (if a = 4 ∧ b = 0 ∧ _ then _ else σ.1 a b c) else 0) = (if keepB a c = true then σ.1 a b c else 0)
    by_cases hb : keepB a c = true
    · rw [if_pos hb, if_pos hb, if_neg (fun e => by rw [e.1] at hb; simp [keepB, keepC] at hb)]
    · rw [if_neg hb, if_neg hb]
  · rw [q3]
    refine Prod.ext ?_ rfl
    funext a b c
    show (if keepV a c = true then (if a = 4 ∧ b = 0 ∧ _ then _ else σ.1 a b c) else 0) = (if keepV a c = true then σ.1 a b c else 0)
    by_cases hb : keepV a c = true
    · rw [if_pos hb, if_pos hb, if_neg (fun e => by rw [e.1] at hb; simp [keepV] at hb)]
    · rw [if_neg hb, if_neg hb]
/-- the reference's loops -/
theorem bc_I {n m : Nat} {W : Nat → Nat} {kk : Int32 → Int32 → Int32 → ab_S → Option Int32} {v2 : Int32} {σ : ab_S} (hn : σ.1 0 0 6 = nI n) (n5 : n ≤ 5) (hm : m ≤ 5) (hw : ∀ d, d < 5 → W d ≤ 12 ∧ σ.1 1 0 d = nI (W d)) {d : Nat} (hd : d < n) : ∀ (k j fuel : Nat), j + k = n → k < fuel → fX10_bestCode_b18 kk fuel (nI m) v2 (nI d) (nI (ctp (fun o => ahd W o d) j)) (nI j) σ = kk (nI m) (v2 + nI (if rnk W n d < m then W d else 0)) (nI (d + 1)) σ := by
  intro k
  induction k with
  | zero =>
    intro j fuel h1 h2
    obtain ⟨f, rfl⟩ : ∃ f, fuel = f + 1 := ⟨fuel - 1, by omega⟩
    have hj : j = n := by omega
    subst hj
    have := ctp_n (fun o => ahd W o d) j
    show fX10_bestCode_b18_o _ _ _ _ _ _ _ _ = _
    unfold fX10_bestCode_b18_o fX10_bestCode_b98
    rw [hn, if_pos (pu_le (Nat.le_refl j)), if_pos (inb_nI (by omega)), cl_nI (d := d) (by omega), (hw d (by omega)).2]
    by_cases h : rnk W j d < m
    · have h' : ctp (fun o => ahd W o d) j < m := h
      rw [if_neg (pu_nle h'), if_pos h, nI_1]
    · rw [if_pos (pu_le (show m ≤ ctp (fun o => ahd W o d) j from by unfold rnk at h; omega) (by omega)), if_neg h, nI_1]
      rfl
  | succ k ih =>
    intro j fuel h1 h2
    obtain ⟨f, rfl⟩ : ∃ f, fuel = f + 1 := ⟨fuel - 1, by omega⟩
    show fX10_bestCode_b18_o _ _ _ _ _ _ _ _ = _
    unfold fX10_bestCode_b18_o fX10_bestCode_b67 fX10_bestCode_b71 fX10_bestCode_b72
    obtain ⟨a1, b1⟩ := hw d (by omega)
    obtain ⟨a2, b2⟩ := hw j (by omega)
    have hc : ctp (fun o => ahd W o d) (j + 1) = if ahd W j d = true then ctp (fun o => ahd W o d) j + 1 else ctp (fun o => ahd W o d) j := rfl
    have ih' := ih (j + 1) f (by omega) (by omega)
    rw [hc] at ih'
    rw [hn, if_neg (pu_nle (by omega))]
    simp only [inb_nI (show j < 7 by omega), inb_nI (show d < 7 by omega), cl_nI (d := j) (by omega), cl_nI (d := d) (by omega), ↓reduceIte, b1, b2, nI_1]
    by_cases c1 : W d < W j
    · rw [if_pos (pu_lt c1)]
      rw [if_pos (by simp [ahd, c1])] at ih'
      exact ih'
    · rw [if_neg (pu_nlt (by omega))]
      by_cases c2 : W j = W d
      · rw [if_pos (by rw [c2])]
        by_cases c3 : d ≤ j
        · rw [if_pos (pu_le c3)]
          rw [if_neg (by simp [ahd]; omega)] at ih'
          rw [show nI (ctp (fun o => ahd W o d) j) + 0 = nI (ctp (fun o => ahd W o d) j) by simp]
          exact ih'
        · rw [if_neg (pu_nle (by omega))]
          rw [if_pos (by simp [ahd]; omega)] at ih'
          exact ih'
      · rw [if_neg (pu_ne c2)]
        rw [if_neg (by simp [ahd]; omega)] at ih'
        rw [show nI (ctp (fun o => ahd W o d) j) + 0 = nI (ctp (fun o => ahd W o d) j) by simp]
        exact ih'
theorem bc_O {n m : Nat} {W : Nat → Nat} {σ : ab_S} (hn : σ.1 0 0 6 = nI n) (n5 : n ≤ 5) (hm : m ≤ 5) (hw : ∀ d, d < 5 → W d ≤ 12 ∧ σ.1 1 0 d = nI (W d)) : ∀ (k j fuel : Nat), j + k = n → k < fuel → fX10_bestCode_b4 fuel (nI m) (nI (sm (fun d => if rnk W n d < m then W d else 0) j)) (nI j) σ = some (nI (tops W n m)) := by
  intro k
  induction k with
  | zero =>
    intro j fuel h1 h2
    obtain ⟨f, rfl⟩ : ∃ f, fuel = f + 1 := ⟨fuel - 1, by omega⟩
    show fX10_bestCode_b4_o _ _ _ _ _ = _
    unfold fX10_bestCode_b4_o
    rw [hn, if_pos (pu_le (by omega)), show j = n by omega]
    rfl
  | succ k ih =>
    intro j fuel h1 h2
    obtain ⟨f, rfl⟩ : ∃ f, fuel = f + 1 := ⟨fuel - 1, by omega⟩
    show fX10_bestCode_b4_o _ _ _ _ _ = _
    unfold fX10_bestCode_b4_o
    have := bc_I (kk := fX10_bestCode_b4 f) (v2 := nI (sm (fun d => if rnk W n d < m then W d else 0) j)) hn n5 hm hw (show j < n by omega) n 0 ab_N (by omega) (by rw [pu_N]; omega)
    rw [show nI (ctp (fun o => ahd W o j) 0) = (0 : Int32) from rfl, show nI 0 = (0 : Int32) from rfl] at this
    rw [hn, if_neg (pu_nle (by omega)), this, nI_add]
    exact ih (j + 1) f (by omega) (by omega)
/-! by the code -/
def gsy (W S : Nat → Nat) (v : Nat) : Nat → Nat
  | 0 => 0
  | d + 1 => if S d = v then (if gsy W S v d < W d then W d else gsy W S v d) else gsy W S v d
theorem gsy_le {W S : Nat → Nat} {v : Nat} : ∀ n : Nat, (∀ d, d < n → W d ≤ 12) → gsy W S v n ≤ 12
  | 0, _ => by simp [gsy]
  | n + 1, h => by
    have := gsy_le (S := S) (v := v) n (fun d hd => h d (by omega))
    have := h n (by omega)
    unfold gsy
    split
    · split <;> omega
    · omega
theorem gs_L {n v : Nat} {W S : Nat → Nat} {σ : ab_S} (hn : σ.1 1 0 3 = nI n) (n5 : n ≤ 5) (hv : v ≤ 4) (hw : ∀ d, d < 5 → W d ≤ 12 ∧ σ.1 2 0 d = nI (W d)) (hs : ∀ d, d < 5 → S d ≤ 4 ∧ σ.1 3 0 d = nI (S d)) : ∀ (k j fuel : Nat), j + k = n → k < fuel → fX7_greatestThatSays_b4 fuel (nI v) (nI (gsy W S v j)) (nI j) σ = some (nI (gsy W S v n)) := by
  intro k
  induction k with
  | zero =>
    intro j fuel h1 h2
    obtain ⟨f, rfl⟩ : ∃ f, fuel = f + 1 := ⟨fuel - 1, by omega⟩
    show fX7_greatestThatSays_b4_o _ _ _ _ _ = _
    unfold fX7_greatestThatSays_b4_o
    rw [hn, if_pos (pu_le (by omega)), show j = n by omega]
  | succ k ih =>
    intro j fuel h1 h2
    obtain ⟨f, rfl⟩ : ∃ f, fuel = f + 1 := ⟨fuel - 1, by omega⟩
    show fX7_greatestThatSays_b4_o _ _ _ _ _ = _
    unfold fX7_greatestThatSays_b4_o fX7_greatestThatSays_b33
    obtain ⟨a1, b1⟩ := hw j (by omega)
    obtain ⟨a2, b2⟩ := hs j (by omega)
    have a3 := gsy_le (W := W) (S := S) (v := v) j (fun d hd => (hw d (by omega)).1)
    have ih' := ih (j + 1) f (by omega) (by omega)
    rw [show gsy W S v (j + 1) = if S j = v then (if gsy W S v j < W j then W j else gsy W S v j) else gsy W S v j from rfl] at ih'
    rw [hn, if_neg (pu_nle (by omega))]
    simp only [inb_nI (show j < 5 by omega), cl_nI (d := j) (by omega), ↓reduceIte, b1, b2, nI_1, pu_k]
    by_cases c1 : S j = v
    · rw [if_pos (by rw [c1])]
      rw [if_pos c1] at ih'
      by_cases c2 : gsy W S v j < W j
      · rw [if_pos (pu_lt c2)]
        rw [if_pos c2] at ih'
        exact ih'
      · rw [if_neg (pu_nlt (by omega))]
        rw [if_neg c2] at ih'
        exact ih'
    · rw [if_neg (pu_ne c1)]
      rw [if_neg c1] at ih'
      exact ih'
theorem wc_L {n : Nat} {W S : Nat → Nat} {σ : ab_S} (hn : σ.1 1 0 3 = nI n) (n5 : n ≤ 5) (hw : ∀ d, d < 5 → W d ≤ 12 ∧ σ.1 2 0 d = nI (W d)) (hs : ∀ d, d < 5 → S d ≤ 4 ∧ σ.1 3 0 d = nI (S d)) : ∀ (k j fuel : Nat), j + k = 5 → k < fuel → fX7_wonByCode_b4 fuel (nI (sm (fun v => gsy W S v n) j)) (nI j) σ = some (nI (sm (fun v => gsy W S v n) 5)) := by
  intro k
  induction k with
  | zero =>
    intro j fuel h1 h2
    obtain ⟨f, rfl⟩ : ∃ f, fuel = f + 1 := ⟨fuel - 1, by omega⟩
    show fX7_wonByCode_b4_o _ _ _ _ = _
    unfold fX7_wonByCode_b4_o
    rw [if_pos (pr_lt (b := 4) (by omega)), show j = 5 by omega]
  | succ k ih =>
    intro j fuel h1 h2
    obtain ⟨f, rfl⟩ : ∃ f, fuel = f + 1 := ⟨fuel - 1, by omega⟩
    show fX7_wonByCode_b4_o _ _ _ _ = _
    unfold fX7_wonByCode_b4_o fX7_greatestThatSays
    have := gs_L (v := j) hn n5 (by omega) hw hs n 0 ab_N (by omega) (by rw [pu_N]; omega)
    rw [show nI (gsy W S j 0) = (0 : Int32) from rfl, show nI 0 = (0 : Int32) from rfl] at this
    rw [if_neg (pr_nlt (b := 4) (by omega)), this, Option.bind_some, nI_add, nI_1]
    exact ih (j + 1) f (by omega) (by omega)
theorem by_I {n v : Nat} {W S : Nat → Nat} {kk : Int32 → Int32 → ab_S → Option Int32} {v1 : Int32} {σ : ab_S} (hn : σ.1 0 0 6 = nI n) (n5 : n ≤ 5) (hv : v ≤ 4) (hw : ∀ d, d < 5 → W d ≤ 12 ∧ σ.1 1 0 d = nI (W d)) (hs : ∀ d, d < 5 → S d ≤ 4 ∧ σ.1 7 0 d = nI (S d)) : ∀ (k j fuel : Nat), j + k = n → k < fuel → fX10_byCode_b14 kk fuel v1 (nI v) (nI (gsy W S v j)) (nI j) σ = kk (v1 + nI (gsy W S v n)) (nI (v + 1)) σ := by
  intro k
  induction k with
  | zero =>
    intro j fuel h1 h2
    obtain ⟨f, rfl⟩ : ∃ f, fuel = f + 1 := ⟨fuel - 1, by omega⟩
    show fX10_byCode_b14_o _ _ _ _ _ _ _ = _
    unfold fX10_byCode_b14_o
    rw [hn, if_pos (pu_le (by omega)), show j = n by omega, nI_1]
  | succ k ih =>
    intro j fuel h1 h2
    obtain ⟨f, rfl⟩ : ∃ f, fuel = f + 1 := ⟨fuel - 1, by omega⟩
    show fX10_byCode_b14_o _ _ _ _ _ _ _ = _
    unfold fX10_byCode_b14_o fX10_byCode_b55 fX10_byCode_b56
    obtain ⟨a1, b1⟩ := hw j (by omega)
    obtain ⟨a2, b2⟩ := hs j (by omega)
    have a3 := gsy_le (W := W) (S := S) (v := v) j (fun d hd => (hw d (by omega)).1)
    have ih' := ih (j + 1) f (by omega) (by omega)
    rw [show gsy W S v (j + 1) = if S j = v then (if gsy W S v j < W j then W j else gsy W S v j) else gsy W S v j from rfl] at ih'
    rw [hn, if_neg (pu_nle (by omega))]
    simp only [inb_nI (show j < 5 by omega), inb_nI (show j < 7 by omega), cl_nI (d := j) (by omega), ↓reduceIte, b1, b2, nI_1]
    by_cases c1 : S j = v
    · rw [if_pos (by rw [c1])]
      rw [if_pos c1] at ih'
      by_cases c2 : gsy W S v j < W j
      · rw [if_neg (pu_nle c2)]
        rw [if_pos c2] at ih'
        exact ih'
      · rw [if_pos (pu_le (by omega))]
        rw [if_neg c2] at ih'
        exact ih'
    · rw [if_neg (pu_ne c1)]
      rw [if_neg c1] at ih'
      exact ih'
theorem by_O {n : Nat} {W S : Nat → Nat} {σ : ab_S} (hn : σ.1 0 0 6 = nI n) (n5 : n ≤ 5) (hw : ∀ d, d < 5 → W d ≤ 12 ∧ σ.1 1 0 d = nI (W d)) (hs : ∀ d, d < 5 → S d ≤ 4 ∧ σ.1 7 0 d = nI (S d)) : ∀ (k j fuel : Nat), j + k = 5 → k < fuel → fX10_byCode_b4 fuel (nI (sm (fun v => gsy W S v n) j)) (nI j) σ = some (nI (sm (fun v => gsy W S v n) 5)) := by
  intro k
  induction k with
  | zero =>
    intro j fuel h1 h2
    obtain ⟨f, rfl⟩ : ∃ f, fuel = f + 1 := ⟨fuel - 1, by omega⟩
    show fX10_byCode_b4_o _ _ _ _ = _
    unfold fX10_byCode_b4_o
    rw [if_pos (pr_le (b := 5) (by omega)), show j = 5 by omega]
  | succ k ih =>
    intro j fuel h1 h2
    obtain ⟨f, rfl⟩ : ∃ f, fuel = f + 1 := ⟨fuel - 1, by omega⟩
    show fX10_byCode_b4_o _ _ _ _ = _
    unfold fX10_byCode_b4_o
    have := by_I (kk := fX10_byCode_b4 f) (v1 := nI (sm (fun v => gsy W S v n) j)) (v := j) hn n5 (by omega) hw hs n 0 ab_N (by omega) (by rw [pu_N]; omega)
    rw [show nI (gsy W S j 0) = (0 : Int32) from rfl, show nI 0 = (0 : Int32) from rfl] at this
    rw [if_neg (pr_nle (b := 5) (by omega)), this, nI_add]
    exact ih (j + 1) f (by omega) (by omega)
section
variable {i : Nat} {σc σm : ab_S}
theorem pp_partner (h : Rel i σc σm) (hi : i ≤ 3072) (a0 : Int32) (a1 : Int32) : ∃ (r : Int64) (σc1 : ab_S), fX9_partner a0 a1 σc = some (r, σc1) ∧ fX10_partner a0 a1 σm = some r ∧ Rel (i + 6) σc1 σm := by
  have h0 := Rel_mono h
  have hh := h
  obtain ⟨n, b, n2, n5, hst, hev, him, hch, htp, hlw, hgv, hbs, hbd, hsh⟩ := h
  obtain ⟨W, hW, -⟩ := st_W hst
  have hn := hst.1
  have hm := hst.2.1
  unfold fX9_partner fX10_partner fX9_partner_b16 fX10_partner_b22 fX10_partner_b66 fX10_partner_b57 fX9_partner_b60
  rcases pu_rng a0 0 5 with hv | ⟨m, m0, m5, rfl⟩
  · refine ⟨-9223372036854775808, σc, ?_, ?_, h0⟩
    · by_cases h1 : a0 < 0
      · rw [if_pos h1]
      · rw [if_neg h1, if_pos (show (5 : Int32) < a0 from hv.resolve_left h1)]
    · rw [show fX10_within a0.toInt64 0 5 = some 0 from pu_wi_no (lo := 0) (hi := 5) hv]; rfl
  rw [if_neg pu_n1l, if_neg (pr_nlt (b := 5) m5), show fX10_within (nI m).toInt64 0 5 = some 1 from pu_wi_yes (lo := 0) (hi := 5) m0 m5, Option.bind_some, if_neg pu_10]
  rcases pu_rng a1 0 1 with hv | ⟨p, p0, p1, rfl⟩
  · rw [pu_isPart_no hv, show fX10_within a1.toInt64 0 1 = some 0 from pu_wi_no (lo := 0) (hi := 1) hv]
    exact ⟨-9223372036854775808, σc, rfl, rfl, h0⟩
  rw [pu_isPart_yes p1, show fX10_within (nI p).toInt64 0 1 = some 1 from pu_wi_yes (lo := 0) (hi := 1) p0 p1, Option.bind_some, Option.bind_some, if_neg pu_10, if_neg pu_10, tg_c hn n5 (fun d hd => (hW d (by omega)).2.1), al_m hm n5 (fun d hd => (hW d (by omega)).2.2), Option.bind_some, Option.bind_some]
  have bW := sm_le (f := W) (B := 12) n (fun d hd => (hW d (by omega)).1)
  have bW' : n * 12 ≤ 60 := by omega
  by_cases hz : sm W n = 0
  · rw [hz]
    exact ⟨-2, σc, rfl, rfl, h0⟩
  rw [if_neg (pl_ne (b := 0) hz), if_neg (pl_ne (b := 0) hz)]
  have fin : ∀ q : Nat, q ≤ 60 → (fX9_lowest (nI q).toInt64 (nI (sm W n)).toInt64 (nI p)) = some (lN (frac p q (sm W n))) ∧ (fX10_partOf (nI q).toInt64 (nI (sm W n)).toInt64 (nI p)) = some (lN (frac p q (sm W n))) := fun q hq => by
    rw [nI_l (by omega), nI_l (by omega)]
    exact ⟨pu_lowest p1 (by omega) (by omega) (by omega), pu_partOf p1 (by omega) (by omega) (by omega)⟩
  by_cases hm0 : m = 0
  · subst hm0
    have hS : ∀ d, d < 5 → (σc.1 3 0 d).toNatClampNeg ≤ 4 ∧ σc.1 3 0 d = nI (σc.1 3 0 d).toNatClampNeg ∧ σm.1 7 0 d = nI (σc.1 3 0 d).toNatClampNeg := fun d hd => by
      obtain ⟨⟨w, hw, e⟩, e2⟩ := hst.2.2.2.1 d hd
      rw [e2, e, cl_nI]
      exact ⟨by omega, rfl, rfl⟩
    have q1 := wc_L (σ := σc) (S := fun d => (σc.1 3 0 d).toNatClampNeg) hn n5 (fun d hd => ⟨(hW d hd).1, (hW d hd).2.1⟩) (fun d hd => ⟨(hS d hd).1, (hS d hd).2.1⟩) 5 0 ab_N (by omega) (by decide)
    have q2 := by_O (σ := σm) (S := fun d => (σc.1 3 0 d).toNatClampNeg) hm n5 (fun d hd => ⟨(hW d hd).1, (hW d hd).2.2⟩) (fun d hd => ⟨(hS d hd).1, (hS d hd).2.2⟩) 5 0 ab_N (by omega) (by decide)
    have q3 := sm_le (f := fun v => gsy W (fun d => (σc.1 3 0 d).toNatClampNeg) v n) (B := 12) 5 (fun v _ => gsy_le n (fun d hd => (hW d (by omega)).1))
    unfold fX7_wonByCode fX10_byCode
    rw [show nI (sm (fun v => gsy W (fun d => (σc.1 3 0 d).toNatClampNeg) v n) 0) = (0 : Int32) from rfl, show nI 0 = (0 : Int32) from rfl] at q1 q2
    rw [if_pos (show nI 0 = 0 from rfl), if_pos (show nI 0 = 0 from rfl), q1, q2, Option.bind_some, Option.bind_some, (fin _ (by omega)).1, Option.bind_some, Option.bind_some, (fin _ (by omega)).2]
    exact ⟨_, σc, rfl, rfl, h0⟩
  · obtain ⟨σ', q1, q2, q3⟩ := gt_c (σ := σc) (W := W) (m := m) (by omega) n5 m5 (fun d hd => (hW d hd).1) hn (fun d hd => (hW d hd).2.1)
    have q4 := bc_O (σ := σm) (W := W) (m := m) hm n5 m5 (fun d hd => ⟨(hW d hd).1, (hW d hd).2.2⟩) n 0 ab_N (by omega) (by rw [pu_N]; omega)
    have q5 := sm_le (f := fun d => if rnk W n d < m then W d else 0) (B := 12) n (fun d hd => by
      have := (hW d (by omega)).1
      split <;> omega)
    unfold fX10_bestCode
    rw [show nI (sm (fun d => if rnk W n d < m then W d else 0) 0) = (0 : Int32) from rfl, show nI 0 = (0 : Int32) from rfl] at q4
    have q6 : tops W n m ≤ 60 := by unfold tops; omega
    rw [if_neg (pl_ne (b := 0) hm0), if_neg (pl_ne (b := 0) hm0), q1, q4, Option.bind_some, Option.bind_some, (fin _ q6).1, Option.bind_some, Option.bind_some, (fin _ q6).2]
    exact ⟨_, σ', rfl, rfl, Rel_fr hh q2 rfl (R_gv_fr hgv q3)⟩
end
