/-! PURE, 15: the class reads a law -/
theorem lt_lt {t : Nat → Int32} {L p : Nat} (h : lt_ t L p ≠ -1) : p < L := by
  unfold lt_ at h
  by_cases q : p < L
  · exact q
  · rw [if_neg q] at h
    exact absurd rfl h
theorem isJ_lt {t : Nat → Int32} {L p lv : Nat} (h : isJ lv (lt_ t L p) = true) : p < L := by
  refine lt_lt (t := t) (fun e => ?_)
  rw [e] at h
  unfold isJ at h
  split at h <;> simp at h
theorem isDg_lt {t : Nat → Int32} {L p : Nat} (h : isDg (lt_ t L p) = true) : p < L := by
  refine lt_lt (t := t) (fun e => ?_)
  rw [e] at h
  exact absurd h (by decide)
theorem isNm_lt {t : Nat → Int32} {L p : Nat} (h : isNm (lt_ t L p) = true) : p < L := by
  refine lt_lt (t := t) (fun e => ?_)
  rw [e] at h
  exact absurd h (by decide)
theorem eq_lt {t : Nat → Int32} {L p : Nat} {c : Int32} (h : lt_ t L p = c) (hc : c ≠ -1) : p < L := lt_lt (t := t) (by rw [h]; exact hc)
section
variable {t : Nat → Int32} {L : Nat}
def PG (L p0 : Nat) (r : PR) : Prop := p0 ≤ r.2.1 ∧ r.2.1 ≤ L ∧ (r.1 = false → r.2.2.length + p0 ≤ r.2.1)
theorem plp_g {next : Nat → PR} {lv p0 : Nat} (hn : ∀ p, p ≤ L → PG L p (next p)) : ∀ (k : Nat) (r : PR), PG L p0 r → PG L p0 (plp next (isJ lv) (lt_ t L) k r) := by
  intro k
  induction k with
  | zero => intro r h; exact h
  | succ k ih =>
    intro r h
    obtain ⟨w, p, cs⟩ := r
    unfold plp
    by_cases hw : w = true
    · rw [if_pos hw]; exact h
    · rw [if_neg hw]
      by_cases hj : isJ lv (lt_ t L p) = true
      · rw [if_pos hj]
        have hp := isJ_lt hj
        obtain ⟨n1, n2, n3⟩ := hn (p + 1) (by omega)
        obtain ⟨g1, g2, g3⟩ := h
        simp only at g1 g2 g3
        have g4 := g3 (by simpa using hw)
        refine ih _ ⟨by dsimp only; omega, n2, fun q => ?_⟩
        dsimp only at q ⊢
        have := n3 q
        simp only [List.length_append, List.length_cons, List.length_nil]
        omega
      · rw [if_neg hj]; exact h
theorem pnm_g : ∀ (k p : Nat) (v : Int32), p ≤ L → p ≤ (pnm (lt_ t L) k p v).1 ∧ (pnm (lt_ t L) k p v).1 ≤ L := by
  intro k
  induction k with
  | zero => intro p v h; exact ⟨Nat.le_refl _, h⟩
  | succ k ih =>
    intro p v h
    unfold pnm
    by_cases hd : isDg (lt_ t L p) = true
    · rw [if_pos hd]
      have := isDg_lt hd
      obtain ⟨h1, h2⟩ := ih (p + 1) (10 * v + lt_ t L p - 48) (by omega)
      exact ⟨by omega, h2⟩
    · rw [if_neg hd]; exact ⟨Nat.le_refl _, h⟩
theorem pj_g : ∀ (f lv dp p : Nat), p ≤ L → PG L p (pj (lt_ t L) f lv dp p) := by
  intro f
  induction f with
  | zero => intro lv dp p h; exact ⟨Nat.le_refl _, h, fun q => by cases q⟩
  | succ f ih =>
    intro lv dp p h
    unfold pj
    by_cases hlv : lv < 5
    · rw [if_pos hlv]
      exact plp_g (fun p' hp' => ih (lv + 1) dp p' hp') _ _ (ih (lv + 1) dp p h)
    rw [if_neg hlv]
    by_cases hd : isDg (lt_ t L p) = true
    · rw [if_pos hd]
      have := isDg_lt hd
      have e : pnm (lt_ t L) 4 p 0 = pnm (lt_ t L) 3 (p + 1) (10 * 0 + lt_ t L p - 48) := by
        show (if isDg (lt_ t L p) = true then _ else _) = _
        rw [if_pos hd]
      rw [e]
      obtain ⟨h1, h2⟩ := pnm_g (t := t) (L := L) 3 (p + 1) (10 * 0 + lt_ t L p - 48) (by omega)
      exact ⟨by dsimp only; omega, h2, fun _ => by dsimp only [List.length_cons, List.length_nil]; omega⟩
    rw [if_neg hd]
    by_cases hn : isNm (lt_ t L p) = true
    · rw [if_pos hn]
      have := isNm_lt hn
      exact ⟨by dsimp only; omega, by dsimp only; omega, fun _ => by dsimp only [List.length_cons, List.length_nil]; omega⟩
    rw [if_neg hn]
    by_cases h6 : 6 ≤ dp
    · rw [if_pos h6]; exact ⟨Nat.le_refl _, h, fun q => by cases q⟩
    rw [if_neg h6]
    by_cases h40 : lt_ t L p = 40
    · rw [if_pos h40]
      have := eq_lt h40 (by decide)
      obtain ⟨g1, g2, g3⟩ := ih 0 (dp + 1) (p + 1) (by omega)
      by_cases hw : (pj (lt_ t L) f 0 (dp + 1) (p + 1)).1 = true
      · rw [if_pos hw]; exact ⟨by omega, g2, fun q => by rw [hw] at q; cases q⟩
      · rw [if_neg hw]
        have g4 := g3 (by simpa using hw)
        by_cases h41 : lt_ t L (pj (lt_ t L) f 0 (dp + 1) (p + 1)).2.1 = 41
        · rw [if_pos h41]
          have := eq_lt h41 (by decide)
          exact ⟨by dsimp only; omega, by dsimp only; omega, fun _ => by dsimp only; omega⟩
        · rw [if_neg h41]; exact ⟨by dsimp only; omega, g2, fun q => by cases q⟩
    rw [if_neg h40]
    by_cases h33 : lt_ t L p = 33 ∨ lt_ t L p = 45
    · rw [if_pos h33]
      have : p < L := by
        rcases h33 with e | e
        · exact eq_lt e (by decide)
        · exact eq_lt e (by decide)
      obtain ⟨g1, g2, g3⟩ := ih 5 (dp + 1) (p + 1) (by omega)
      refine ⟨by dsimp only; omega, g2, fun q => ?_⟩
      have := g3 q
      dsimp only
      simp only [List.length_append, List.length_cons, List.length_nil]
      omega
    · rw [if_neg h33]; exact ⟨Nat.le_refl _, h, fun q => by cases q⟩
end
/-! the class's state while it reads -/
def keepP (r i : Nat) : Bool := if r = 20 then false else if r = 18 then !decide (i = 3) && (!decide (i = 4) && !decide (i = 5)) else true
def mP (σ : ab_S) : ab_S := (fun r k i => if keepP r i = true then σ.1 r k i else 0, σ.2)
theorem mP_si {σ : ab_S} {r k j : Nat} {v : Int32} (h : keepP r j = false) : mP (ab_si σ r k j v) = mP σ := by
  refine Prod.ext ?_ rfl
  funext a b c
  show (if keepP a c = true then (if a = r ∧ b = k ∧ c = j then v else σ.1 a b c) else 0) = (if keepP a c = true then σ.1 a b c else 0)
  by_cases hb : keepP a c = true
  · rw [if_pos hb, if_pos hb, if_neg (fun e => by rw [e.1, e.2.2, h] at hb; cases hb)]
  · rw [if_neg hb, if_neg hb]
theorem mP_get {σ σ' : ab_S} (h : mP σ' = mP σ) {r k i : Nat} (hk : keepP r i = true) : σ'.1 r k i = σ.1 r k i := by
  have := congrFun (congrFun (congrFun (congrArg Prod.fst h) r) k) i
  simpa only [mP, hk, if_true] using this
def CPs (t : Nat → Int32) (L : Nat) (σ : ab_S) (p e : Nat) : Prop :=
  L ≤ 120 ∧ σ.1 18 0 2 = nI L ∧ (∀ k, k < L → σ.1 19 0 k = t k) ∧ σ.1 18 0 4 = nI p ∧ σ.1 18 0 5 = 0 ∧ σ.1 18 0 3 = nI e ∧ p ≤ L ∧ e ≤ p
def CP (σ σ' : ab_S) (e : Nat) (r : PR) : Prop :=
  mP σ' = mP σ ∧ σ'.1 18 0 4 = nI r.2.1 ∧ (∃ e', e' ≤ 121 ∧ σ'.1 18 0 3 = nI e') ∧ (r.1 = true → σ'.1 18 0 5 = 1) ∧ (r.1 = false → σ'.1 18 0 5 = 0 ∧ σ'.1 18 0 3 = nI (e + r.2.2.length) ∧ (∀ i, i < e → σ'.1 20 0 i = σ.1 20 0 i) ∧ ∀ i x, r.2.2[i]? = some x → σ'.1 20 0 (e + i) = x)
theorem pc_letter {t : Nat → Int32} {L p : Nat} {σ : ab_S} (hL : L ≤ 120) (h2 : σ.1 18 0 2 = nI L) (hl : ∀ k, k < L → σ.1 19 0 k = t k) (h4 : σ.1 18 0 4 = nI p) (hp : p ≤ L) : fX8_letter σ = some (lt_ t L p) := by
  unfold fX8_letter fX8_letter_b39 fX8_letter_b40 lt_
  rw [h4, h2, if_neg (pu_n1l (by omega))]
  by_cases h : p < L
  · rw [if_neg (pu_nle h), if_neg (pr_nle (b := 120) (by omega)), if_pos (inb_nI (by omega)), cl_nI (by omega), if_pos h, hl p h]
  · rw [if_pos (pu_le (by omega)), if_neg h]
theorem pc_emit {σ : ab_S} {e : Nat} {x : Int32} (h3 : σ.1 18 0 3 = nI e) (he : e ≤ 121) : ∃ σ', fX8_emit x σ = some σ' ∧ mP σ' = mP σ ∧ σ'.1 18 0 4 = σ.1 18 0 4 ∧ σ'.1 18 0 5 = σ.1 18 0 5 ∧ (∃ e', e' ≤ 121 ∧ σ'.1 18 0 3 = nI e') ∧ (e < 121 → σ'.1 18 0 3 = nI (e + 1) ∧ σ'.1 20 0 e = x ∧ ∀ i, i ≠ e → σ'.1 20 0 i = σ.1 20 0 i) := by
  unfold fX8_emit
  rw [h3]
  by_cases h : e < 121
  · rw [if_pos (show nI e < Int32.ofNat 121 from pu_lt (b := 121) h), if_pos (inb_nI h), cl_nI (by omega)]
    simp only [pu_k]
    have r1 : (ab_si σ 20 0 e x).1 18 0 3 = nI e := h3
    rw [r1, nI_1]
    exact ⟨_, rfl, (mP_si rfl).trans (mP_si rfl), rfl, rfl, ⟨e + 1, by omega, rfl⟩, fun _ => ⟨rfl, pu_siE, fun i hi => pu_siJ hi⟩⟩
  · rw [if_neg (show ¬ nI e < Int32.ofNat 121 from pu_nlt (b := 121) (by omega))]
    exact ⟨σ, rfl, rfl, rfl, rfl, ⟨e, he, h3⟩, fun z => absurd z h⟩
theorem pc_isJ : ∀ lv, lv < 5 → ∀ x : Int32, fX8_isJoint (nI lv) x = some (if isJ lv x = true then 1 else 0) := by
  intro lv h x
  rcases (show lv = 0 ∨ lv = 1 ∨ lv = 2 ∨ lv = 3 ∨ lv = 4 by omega) with rfl | rfl | rfl | rfl | rfl
  · show (if x = 124 then some 1 else some 0) = _
    unfold isJ
    by_cases e : x = 124 <;> simp [e]
  · show (if x = 38 then some 1 else some 0) = _
    unfold isJ
    by_cases e : x = 38 <;> simp [e]
  · show (if x = 60 then some 1 else if x = 61 then some 1 else if x = 62 then some 1 else some 0) = _
    unfold isJ
    by_cases e : x = 60
    · simp [e]
    · by_cases e2 : x = 61
      · simp [e2]
      · by_cases e3 : x = 62 <;> simp [e, e2, e3]
  · show (if x = 43 then some 1 else if x = 45 then some 1 else some 0) = _
    unfold isJ
    by_cases e : x = 43
    · simp [e]
    · by_cases e2 : x = 45 <;> simp [e, e2]
  · show (if x = 42 then some 1 else if x = 47 then some 1 else if x = 37 then some 1 else some 0) = _
    unfold isJ
    by_cases e : x = 42
    · simp [e]
    · by_cases e2 : x = 47
      · simp [e2]
      · by_cases e3 : x = 37 <;> simp [e, e2, e3]
theorem pc_isD (x : Int32) : fX8_isDigit x = some (if isDg x = true then 1 else 0) := by
  unfold fX8_isDigit fX8_isDigit_b16 fX8_isDigit_b17 isDg
  by_cases h1 : x < 48
  · rw [if_pos h1, decide_eq_false (fun z => z h1)]; rfl
  · rw [if_neg h1, decide_eq_true h1]
    by_cases h2 : 57 < x
    · rw [if_pos h2, decide_eq_false (fun z => z h2)]; rfl
    · rw [if_neg h2, decide_eq_true h2]; rfl
theorem pc_isN (x : Int32) : fX8_isName x = some (if isNm x = true then 1 else 0) := by
  unfold fX8_isName fX8_isName_b36 fX8_isName_b41 isNm
  by_cases h1 : x = 100
  · rw [if_pos h1]; simp [h1]; rfl
  rw [if_neg h1]
  by_cases h2 : x = 120
  · rw [if_pos h2]; simp [h2]; rfl
  rw [if_neg h2]
  by_cases h3 : x = 99
  · rw [if_pos h3]; simp [h3]; rfl
  rw [if_neg h3]
  by_cases h4 : x = 110
  · rw [if_pos h4]; simp [h4]; rfl
  rw [if_neg h4]
  by_cases h5 : x = 114
  · rw [if_pos h5]; simp [h5]; rfl
  rw [if_neg h5]
  by_cases h6 : x = 97
  · rw [if_pos h6]; simp [h6]; rfl
  rw [if_neg h6]
  simp [h1, h2, h3, h4, h5, h6]; rfl
section
variable {t : Nat → Int32} {L : Nat}
theorem CPs.lt {σ : ab_S} {p e : Nat} (h : CPs t L σ p e) : fX8_letter σ = some (lt_ t L p) := pc_letter h.1 h.2.1 h.2.2.1 h.2.2.2.1 h.2.2.2.2.2.2.1
/-- one more byte read -/
theorem CPs.next {σ : ab_S} {p e : Nat} (h : CPs t L σ p e) (hp : p < L) : CPs t L (ab_si σ 18 0 4 (nI (p + 1))) (p + 1) e :=
  ⟨h.1, h.2.1, h.2.2.1, pu_siE, h.2.2.2.2.1, h.2.2.2.2.2.1, by omega, by have := h.2.2.2.2.2.2.2; omega⟩
/-- what was read right can be read on -/
theorem CP.on {σ σ' : ab_S} {p e : Nat} {r : PR} (h0 : CPs t L σ p e) (h : CP σ σ' e r) (hg : PG L p r) (hw : r.1 = false) : CPs t L σ' r.2.1 (e + r.2.2.length) := by
  obtain ⟨a1, a2, a3, a4, a5, a6, a7, a8⟩ := h0
  obtain ⟨b1, b2, b3, b4, b5⟩ := h
  obtain ⟨g1, g2, g3⟩ := hg
  obtain ⟨c1, c2, -⟩ := b5 hw
  have := g3 hw
  exact ⟨a1, by rw [mP_get b1 rfl]; exact a2, fun k hk => by rw [mP_get b1 rfl]; exact a3 k hk, b2, c1, c2, g2, by omega⟩
theorem pc_num : ∀ (k F p e : Nat) (v : Int32) (σ : ab_S), k ≤ 4 → k < F → CPs t L σ p e → (k < 4 → e + 1 ≤ p) → (k = 4 → isDg (lt_ t L p) = true) → ∃ σ', fX8_number_b4 F v (nI (4 - k)) σ = some σ' ∧ CP σ σ' e (false, (pnm (lt_ t L) k p v).1, [1000 + (pnm (lt_ t L) k p v).2]) := by
  have fin : ∀ (p e : Nat) (v : Int32) (σ : ab_S), CPs t L σ p e → ∃ σ', fX8_number_b48 v σ = some σ' ∧ CP σ σ' e (false, p, [1000 + v]) := by
    intro p e v σ h
    obtain ⟨a1, a2, a3, a4, a5, a6, a7, a8⟩ := h
    obtain ⟨σ', q1, q2, q3, q4, q5, q6⟩ := pc_emit (x := 1000 + v) a6 (by omega)
    obtain ⟨w1, w2, w3⟩ := q6 (by omega)
    refine ⟨σ', ?_, q2, by rw [q3]; exact a4, q5, fun z => (by cases z), fun _ => ⟨by rw [q4]; exact a5, w1, fun i hi => w3 i (by omega), fun i x hx => ?_⟩⟩
    · unfold fX8_number_b48
      rw [q1]; rfl
    · cases i with
      | zero => simp at hx; rw [← hx]; exact w2
      | succ i => simp at hx
  intro k
  induction k with
  | zero =>
    intro F p e v σ h1 h2 h3 h4 h5
    obtain ⟨F, rfl⟩ : ∃ f, F = f + 1 := ⟨F - 1, by omega⟩
    obtain ⟨σ', q1, q2⟩ := fin p e v σ h3
    refine ⟨σ', ?_, q2⟩
    show fX8_number_b4_o _ _ _ _ = _
    unfold fX8_number_b4_o
    rw [if_pos (by decide)]
    exact q1
  | succ k ih =>
    intro F p e v σ h1 h2 h3 h4 h5
    obtain ⟨F, rfl⟩ : ∃ f, F = f + 1 := ⟨F - 1, by omega⟩
    show ∃ σ', fX8_number_b4_o (fX8_number_b4 F) v (nI (4 - (k + 1))) σ = some σ' ∧ _
    unfold fX8_number_b4_o
    rw [if_neg (pr_nle (b := 4) (by omega)), h3.lt, Option.bind_some, pc_isD, Option.bind_some]
    unfold pnm
    by_cases hd : isDg (lt_ t L p) = true
    · rw [if_pos hd, if_pos hd, if_neg pu_10, Option.bind_some, pu_k, h3.2.2.2.1, nI_1, nI_1, show 4 - (k + 1) + 1 = 4 - k by omega]
      have hp := isDg_lt hd
      obtain ⟨σ', q1, q2, q3, q4, q5, q6⟩ := ih F (p + 1) e (10 * v + lt_ t L p - 48) (ab_si σ 18 0 4 (nI (p + 1))) (by omega) (by omega) (h3.next hp) (fun _ => by have := h3.2.2.2.2.2.2.2; omega) (fun z => by omega)
      exact ⟨σ', q1, q2.trans (mP_si rfl), q3, q4, q5, q6⟩
    · rw [if_neg hd, if_neg hd, if_pos rfl]
      exact fin p e v σ h3
/-- the loop of a level -/
theorem pc_loop {f lv dp n : Nat} (hlv : lv < 5) (hdp : dp ≤ 6) (IH : ∀ (p e : Nat) (σ : ab_S), CPs t L σ p e → ∃ σ', fX8_join n (nI (lv + 1)) (nI dp) σ = some σ' ∧ CP σ σ' e (pj (lt_ t L) f (lv + 1) dp p)) {rc0 rc2 : Int32 → ab_S → Option ab_S} {rc3 : Int32 → Int32 → ab_S → Option ab_S} {M : Nat} (hM : M ≤ 120) {σ0 : ab_S} {p0 e0 : Nat} (h0 : CPs t L σ0 p0 e0) :
    ∀ (k F j : Nat) (r : PR) (σ : ab_S), ((k + j = M ∧ k < F) ∨ (M = 120 ∧ j ≤ r.2.1 ∧ L < r.2.1 + k ∧ L < r.2.1 + F)) → CP σ0 σ e0 r → PG L p0 r → (r.1 = true → 0 < F) →
    ∃ σ', fX8_join_b34 rc0 (fX8_join n) rc2 rc3 F (nI lv) (nI dp) (nI M) (nI j) σ = some σ' ∧ CP σ0 σ' e0 (plp (fun p' => pj (lt_ t L) f (lv + 1) dp p') (isJ lv) (lt_ t L) k r) := by
  intro k
  induction k with
  | zero =>
    intro F j r σ h1 h2 h3 h4
    have h5 : j = M := by
      rcases h1 with h1 | h1
      · omega
      · have := h3.2.1; omega
    subst h5
    obtain ⟨F, rfl⟩ : ∃ f, F = f + 1 := ⟨F - 1, by
      rcases h1 with h1 | h1
      · omega
      · have := h3.2.1; omega⟩
    refine ⟨σ, ?_, h2⟩
    show fX8_join_b34_o _ _ _ _ _ _ _ _ _ _ = _
    unfold fX8_join_b34_o fX8_join_b94
    rw [if_pos (pu_le (Nat.le_refl _))]
  | succ k ih =>
    intro F j r σ h1 h2 h3 h4
    obtain ⟨F, rfl⟩ : ∃ f, F = f + 1 := ⟨F - 1, by
      have := h3.2.1
      omega⟩
    have hjM : j ≤ 2 ^ 30 := by
      have := h3.2.1
      have := h0.1
      omega
    obtain ⟨w, p, cs⟩ := r
    show ∃ σ', fX8_join_b34_o rc0 (fX8_join n) rc2 rc3 (fX8_join_b34 rc0 (fX8_join n) rc2 rc3 F) (nI lv) (nI dp) (nI M) (nI j) σ = some σ' ∧ _
    unfold fX8_join_b34_o fX8_join_b94 plp
    cases w with
    | true =>
      rw [if_pos rfl, h2.2.2.2.1 rfl, if_neg pu_10]
      refine ⟨σ, ?_, h2⟩
      by_cases q : nI M ≤ nI j
      · rw [if_pos q]
      · rw [if_neg q]
    | false =>
      have hc := h2.on h0 h3 rfl
      dsimp only at hc h1 h3
      rw [if_neg Bool.false_ne_true, hc.2.2.2.2.1, hc.lt]
      simp only [↓reduceIte, Option.bind_some]
      rw [pc_isJ lv hlv, Option.bind_some]
      by_cases hJ : isJ lv (lt_ t L p) = true
      · have hp := isJ_lt hJ
        have hL := h0.1
        rw [if_neg (pu_nle (by omega)), if_pos hJ, if_neg pu_10, if_pos hJ, pu_k, hc.2.2.2.1, nI_1, nI_1, nI_1]
        have hc2 := hc.next hp
        obtain ⟨σ1, q1, q2⟩ := IH (p + 1) (e0 + cs.length) _ hc2
        have hg1 := pj_g (t := t) (L := L) f (lv + 1) dp (p + 1) (by omega)
        rw [q1, Option.bind_some]
        obtain ⟨e', he', ce⟩ := q2.2.2.1
        obtain ⟨σ2, y1, y2, y3, y4, y5, y6⟩ := pc_emit (x := lt_ t L p) ce he'
        rw [y1, Option.bind_some]
        generalize hr1 : pj (lt_ t L) f (lv + 1) dp (p + 1) = r1 at q2 hg1
        obtain ⟨w1, p1, cs1⟩ := r1
        have hg2 : PG L p0 (w1, p1, cs ++ cs1 ++ [lt_ t L p]) := by
          refine ⟨by have := hg1.1; have := h3.1; dsimp only at *; omega, hg1.2.1, fun z => ?_⟩
          have := hg1.2.2 z
          have := h3.2.2 rfl
          dsimp only at *
          simp only [List.length_append, List.length_cons, List.length_nil]
          omega
        have hcp : CP σ0 σ2 e0 (w1, p1, cs ++ cs1 ++ [lt_ t L p]) := by
          refine ⟨y2.trans (q2.1.trans ((mP_si rfl).trans h2.1)), by rw [y3]; exact q2.2.1, y5, fun z => by rw [y4]; exact q2.2.2.2.1 z, fun z => ?_⟩
          obtain ⟨u1, u2, u3, u4⟩ := q2.2.2.2.2 z
          obtain ⟨-, -, o1, o2⟩ := h2.2.2.2.2 rfl
          have ee : e' = e0 + cs.length + cs1.length := by
            rw [ce] at u2
            have hb := hg1.2.2 z
            have hb2 := h3.2.2 rfl
            have hb3 := h0.2.2.2.2.2.2.2
            have hb4 := hg1.2.1
            dsimp only at *
            exact (nI_eq (by omega) (by omega)).mp u2
          have hb : e' < 121 := by
            have hb := hg1.2.2 z
            have hb2 := h3.2.2 rfl
            have hb3 := h0.2.2.2.2.2.2.2
            have hb4 := hg1.2.1
            dsimp only at *
            omega
          obtain ⟨x1, x2, x3⟩ := y6 hb
          refine ⟨by rw [y4]; exact u1, ?_, fun i hi => ?_, fun i x hx => ?_⟩
          · rw [x1, ee]
            dsimp only
            simp only [List.length_append, List.length_cons, List.length_nil]
            congr 1
            omega
          · rw [x3 i (by omega), u3 i (by omega)]
            exact o1 i hi
          · dsimp only at hx o2 u4
            rw [List.append_assoc, List.getElem?_append] at hx
            by_cases i1 : i < cs.length
            · rw [if_pos i1] at hx
              rw [x3 _ (by omega), u3 _ (by omega)]
              exact o2 i x hx
            · rw [if_neg i1, List.getElem?_append] at hx
              by_cases i2 : i - cs.length < cs1.length
              · rw [if_pos i2] at hx
                rw [x3 _ (by omega)]
                have := u4 _ _ hx
                rw [show e0 + cs.length + (i - cs.length) = e0 + i by omega] at this
                exact this
              · rw [if_neg i2] at hx
                have i3 : i - cs.length - cs1.length = 0 := by
                  rcases Nat.eq_zero_or_pos (i - cs.length - cs1.length) with z | z
                  · exact z
                  · rw [List.getElem?_eq_none (by simp only [List.length_cons, List.length_nil]; omega)] at hx
                    cases hx
                rw [i3] at hx
                simp at hx
                rw [← hx, show e0 + i = e' by omega]
                exact x2
        have hfin : ((k + (j + 1) = M ∧ k < F) ∨ (M = 120 ∧ j + 1 ≤ p1 ∧ L < p1 + k ∧ L < p1 + F)) := by
          have := hg1.1
          dsimp only at this
          rcases h1 with h1 | h1
          · exact Or.inl (by omega)
          · exact Or.inr (by omega)
        exact ih F (j + 1) (w1, p1, cs ++ cs1 ++ [lt_ t L p]) σ2 hfin hcp hg2 (fun z => by
          have := hg1.2.1
          dsimp only at this
          rcases hfin with h1 | h1
          · omega
          · omega)
      · rw [if_neg hJ, if_pos rfl, if_neg hJ]
        refine ⟨σ, ?_, h2⟩
        by_cases q : nI M ≤ nI j
        · rw [if_pos q]
        · rw [if_neg q]
end
