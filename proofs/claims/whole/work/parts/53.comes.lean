/-! PURE, 22: where the cow may be -/
def mI (σ : ab_S) : Nat → Nat → Nat → Int32 := fun r k i => if keepT r i = true then σ.1 r k i else 0
def mJ (σ : ab_S) : Nat → Nat → Nat → Int32 := fun r k i => if keepG r i = true then σ.1 r k i else 0
theorem mI_T {σ σ' : ab_S} (h : mT σ' = mT σ) : mI σ' = mI σ := congrArg Prod.fst h
theorem mJ_G {σ σ' : ab_S} (h : mG σ' = mG σ) : mJ σ' = mJ σ := congrArg Prod.fst h
theorem T_2 {σ σ' : ab_S} (h : mT σ' = mT σ) : σ'.2 = σ.2 := by
  have := congrArg Prod.snd h
  exact this
theorem G_2 {σ σ' : ab_S} (h : mG σ' = mG σ) : σ'.2 = σ.2 := by
  have := congrArg Prod.snd h
  exact this
theorem mI_get {σ σ' : ab_S} (h : mI σ' = mI σ) {r k i : Nat} (hk : keepT r i = true) : σ'.1 r k i = σ.1 r k i := by
  have := congrFun (congrFun (congrFun h r) k) i
  simpa only [mI, hk, if_true] using this
theorem mJ_get {σ σ' : ab_S} (h : mJ σ' = mJ σ) {r k i : Nat} (hk : keepG r i = true) : σ'.1 r k i = σ.1 r k i := by
  have := congrFun (congrFun (congrFun h r) k) i
  simpa only [mJ, hk, if_true] using this
theorem tw_I {σ σ' : ab_S} (h : mI σ' = mI σ) (k : Nat) : tw σ' k = tw σ k := by
  unfold tw
  rw [mI_get (k := k) h (r := 23) (i := 3) rfl, mI_get (k := k) h (r := 23) (i := 5) rfl, mI_get (k := k) h (r := 23) (i := 6) rfl, show σ'.1 24 k = σ.1 24 k from funext fun i => mI_get h rfl]
theorem lwok_I {σ σ' : ab_S} (h : mI σ' = mI σ) (hg : LwOK σ) : LwOK σ' := by
  intro k hk
  rw [mI_get h (r := 23) (i := 5) rfl, mI_get h (r := 23) (i := 3) rfl]
  exact hg k hk
theorem mB_I {σ σ' : ab_S} (h : mI σ' = mI σ) (h43 : σ'.2 43 = σ.2 43) (h32 : σ'.2 32 = σ.2 32) : mB σ' = mB σ := by
  refine Prod.ext ?_ ?_
  · funext r k i
    show (if keepB r i = true then σ'.1 r k i else 0) = (if keepB r i = true then σ.1 r k i else 0)
    by_cases hb : keepB r i = true
    · rw [if_pos hb, if_pos hb, mI_get h (keepTB hb)]
    · rw [if_neg hb, if_neg hb]
  · funext r k i
    show (if r = 43 ∨ r = 32 then σ'.2 r k i else 0) = (if r = 43 ∨ r = 32 then σ.2 r k i else 0)
    by_cases hb : r = 43 ∨ r = 32
    · rw [if_pos hb, if_pos hb]
      rcases hb with rfl | rfl
      · rw [h43]
      · rw [h32]
    · rw [if_neg hb, if_neg hb]
theorem mM_J {σ σ' : ab_S} (h : mJ σ' = mJ σ) (h22 : σ'.2 22 = σ.2 22) : mM σ' = mM σ := by
  refine Prod.ext ?_ ?_
  · funext r k i
    show (if keepM r i = true then σ'.1 r k i else 0) = (if keepM r i = true then σ.1 r k i else 0)
    by_cases hb : keepM r i = true
    · rw [if_pos hb, if_pos hb, mJ_get h (keepGM hb)]
    · rw [if_neg hb, if_neg hb]
  · funext r k i
    show (if r = 22 then σ'.2 r k i else 0) = (if r = 22 then σ.2 r k i else 0)
    by_cases hb : r = 22
    · subst hb
      rw [if_pos rfl, if_pos rfl, h22]
    · rw [if_neg hb, if_neg hb]
/-- shares by all acts told -/
def cw (N n : Nat) (T : Nat → Nat → Nat → Nat → Nat → Nat) (W : Nat → Nat) (o ch : Nat → Int32) (x : Nat) : Nat → Nat
  | 0 => W x
  | a + 1 => cw N n T W o ch x a * sho N n (fun d => T a (pc (opN o a)) (ch a).toNatClampNeg d x) (ch a).toNatClampNeg (opN o a) (o a)
/-- the acts told are sound -/
def AT (n t : Nat) (o ch : Nat → Int32) : Prop := t ≤ 3 ∧ ∀ a, a < t → opN o a < 32 ∧ isN n (ch a) ∧ DU n (ch a).toNatClampNeg (opN o a) (o a)
theorem at_x {n : Nat} {σc σm : ab_S} (h : R_ev n σc σm) (hn : n ≤ 5) {t : Nat} (e : σc.1 5 0 3 = nI t) (ht : t ≤ 3) : AT n t (σc.1 6 0) (σc.1 7 0) ∧ ∀ a, a < t → σm.1 5 0 a = σc.1 6 0 a ∧ σm.1 6 0 a = σc.1 7 0 a := by
  obtain ⟨⟨t', c, ht', hc, e1, e2, e3, e4, e5, hh⟩, -⟩ := h
  have : t' = t := by rw [e] at e1; exact ((nI_eq (by omega) (by omega)).mp e1).symm
  subst this
  have ho : ∀ a, a < t' → σc.1 6 0 a = -1 ∨ ∃ d, d < 5 ∧ σc.1 6 0 a = nI d := fun a ha => by
    rcases (hh a ha).2.2.2 with q | ⟨d, hd, q, -⟩
    · exact Or.inl q
    · exact Or.inr ⟨d, by omega, q⟩
  refine ⟨⟨ht, fun a ha => ⟨opN_lt a (fun a' h' => ho a' (by omega)), (hh a ha).2.2.1, ?_⟩⟩, fun a ha => ⟨(hh a ha).1, (hh a ha).2.1⟩⟩
  rcases (hh a ha).2.2.2 with q | ⟨d, hd, q, q2, q3⟩
  · exact Or.inl q
  · refine Or.inr ⟨d, hd, q, ?_⟩
    obtain ⟨c1, hc1, e6⟩ := (hh a ha).2.2.1
    rw [e6] at q2 ⊢
    rw [cl_nI (by omega)]
    have : d ≠ c1 := fun z => q2 (by rw [z])
    rw [el_isIn this, q3]; rfl
section
variable {n t : Nat} {T : Nat → Nat → Nat → Nat → Nat → Nat} {W : Nat → Nat} {o ch : Nat → Int32} {x : Nat}
theorem cw_le {N : Nat} (n5 : n ≤ 5) (hN : n - 1 ≤ N) (hT : ∀ a r c d x, T a r c d x ≤ 12) (hA : AT n t o ch) (hW : W x ≤ 12) : ∀ a, a ≤ t → cw N n T W o ch x a ≤ 12 * 12 ^ (N * a)
  | 0, _ => by simpa [cw] using hW
  | a + 1, h => by
    have ih := cw_le n5 hN hT hA hW a (by omega)
    obtain ⟨h1, h2, h3⟩ := hA.2 a (by omega)
    have hc := (isN_nI h2).2
    have := sho_le (N := N) (g := fun d => T a (pc (opN o a)) (ch a).toNatClampNeg d x) hc n5 hN (fun d => hT _ _ _ _ _) h3
    unfold cw
    calc cw N n T W o ch x a * _ ≤ 12 * 12 ^ (N * a) * 12 ^ N := Nat.mul_le_mul ih this
      _ = 12 * 12 ^ (N * (a + 1)) := by rw [Nat.mul_assoc, ← Nat.pow_add, Nat.mul_succ]
theorem cw_sc (n5 : n ≤ 5) (hA : AT n t o ch) : ∀ a, a ≤ t → cw 4 n T W o ch x a = 12 ^ ((5 - n) * a) * cw (n - 1) n T W o ch x a
  | 0, _ => by simp [cw]
  | a + 1, h => by
    have ih := cw_sc n5 hA a (by omega)
    obtain ⟨h1, h2, h3⟩ := hA.2 a (by omega)
    have hc := (isN_nI h2).2
    unfold cw
    rw [ih, sho_sc hc n5 h3, Nat.mul_succ, Nat.pow_add]
    rw [Nat.mul_mul_mul_comm]
theorem cw_0 {N : Nat} : ∀ (k a : Nat), cw N n T W o ch x a = 0 → cw N n T W o ch x (a + k) = 0
  | 0, a, h => h
  | k + 1, a, h => by
    have := cw_0 k a h
    show cw N n T W o ch x (a + k) * _ = 0
    rw [this, Nat.zero_mul]
theorem pow_bound {N a : Nat} (hN : N ≤ 4) (ha : a ≤ 3) : 12 * 12 ^ (N * a) ≤ 12 ^ 13 := by
  have : N * a ≤ 12 := by
    have := Nat.mul_le_mul hN ha
    omega
  calc 12 * 12 ^ (N * a) = 12 ^ (N * a + 1) := by rw [Nat.pow_succ, Nat.mul_comm]
    _ ≤ 12 ^ 13 := Nat.pow_le_pow_right (by omega) (by omega)
end
/-- the class's evening, as it is read -/
def EVC (n t h : Nat) (W : Nat → Nat) (σ : ab_S) : Prop := σ.1 1 0 3 = nI n ∧ σ.1 5 0 3 = nI t ∧ σ.1 1 0 4 = nI h ∧ h < 4 ∧ (∀ d, d < n → W d ≤ 12 ∧ σ.1 2 0 d = nI (W d)) ∧ AT n t (σ.1 6 0) (σ.1 7 0)
theorem wo_one {n t h x : Nat} {W : Nat → Nat} {σ0 : ab_S} (n5 : n ≤ 5) (hE : EVC n t h W σ0) (hL : LwOK σ0) (hx : x < n) : ∀ (k a fuel : Nat) (σ : ab_S), a + k = t → k < fuel → mT σ = mT σ0 → R_gv σ → ∃ σ', fX1_weighOne_b17 fuel (nI x) (lN (cw (n - 1) n (tw σ0 h) W (σ0.1 6 0) (σ0.1 7 0) x a)) (nI (opN (σ0.1 6 0) a)) (nI a) σ = some (lN (cw (n - 1) n (tw σ0 h) W (σ0.1 6 0) (σ0.1 7 0) x t), σ') ∧ mT σ' = mT σ0 ∧ R_gv σ' := by
  obtain ⟨e1, e2, e3, hh, e4, hA⟩ := hE
  intro k
  induction k with
  | zero =>
    intro a fuel σ h1 h2 hm hg
    obtain ⟨f, rfl⟩ : ∃ f, fuel = f + 1 := ⟨fuel - 1, by omega⟩
    have ht := hA.1
    refine ⟨σ, ?_, hm, hg⟩
    show fX1_weighOne_b17_o _ _ _ _ _ _ = _
    unfold fX1_weighOne_b17_o fX1_weighOne_b88
    rw [mT_get hm rfl, e2, if_pos (pu_le (by omega)), show a = t by omega]
  | succ k ih =>
    intro a fuel σ h1 h2 hm hg
    obtain ⟨f, rfl⟩ : ∃ f, fuel = f + 1 := ⟨fuel - 1, by omega⟩
    have ht := hA.1
    show ∃ σ', fX1_weighOne_b17_o (fX1_weighOne_b17 f) _ _ _ _ σ = some (_, σ') ∧ _
    unfold fX1_weighOne_b17_o fX1_weighOne_b88 fX1_weighOne_b82
    have hb := cw_le (N := n - 1) (x := x) (W := W) (T := tw σ0 h) n5 (Nat.le_refl _) (fun a r c d x => twV_le _ _ _ _ _ _ _ _ _ : ∀ a r c d x, tw σ0 h a r c d x ≤ 12) hA (e4 x hx).1 a (by omega)
    have hb2 := pow_bound (N := n - 1) (a := a) (by omega) (by omega)
    rw [mT_get hm rfl, e2, if_neg (pu_nle (by omega))]
    have hl0 := pu_l0 (a := cw (n - 1) n (tw σ0 h) W (σ0.1 6 0) (σ0.1 7 0) x a) (by omega)
    by_cases hz : cw (n - 1) n (tw σ0 h) W (σ0.1 6 0) (σ0.1 7 0) x a = 0
    · rw [if_pos (hl0.mpr hz)]
      refine ⟨σ, ?_, hm, hg⟩
      have := cw_0 (k + 1) a hz
      rw [show a + (k + 1) = t by omega] at this
      rw [hz, this]
    · rw [if_neg (fun z => hz (hl0.mp z))]
      obtain ⟨h3, h4, h5⟩ := hA.2 a (by omega)
      obtain ⟨h6, h7⟩ := isN_nI h4
      have op : fX4_openedIn (nI a) σ = some (σ0.1 6 0 a) := by
        unfold fX4_openedIn fX4_openedIn_b27
        rw [if_neg (pu_n1l (by omega)), mT_get hm (r := 5) rfl, e2, if_neg (pu_nle (by omega)), if_neg (pr_nle (b := 3) (by omega)), if_pos (inb_nI (by omega)), cl_nI (by omega), mT_get hm rfl]
      have cp : fX4_chosenIn (nI a) σ = some (nI (σ0.1 7 0 a).toNatClampNeg) := by
        unfold fX4_chosenIn fX4_chosenIn_b30
        rw [if_neg (pu_n1l (by omega)), mT_get hm (r := 5) rfl, e2, if_neg (pu_nle (by omega)), if_neg (pr_nle (b := 3) (by omega)), if_pos (inb_nI (by omega)), cl_nI (by omega), mT_get hm rfl, ← h6]
      obtain ⟨σ1, q1, q2, q3⟩ := shC_ok (n := n) (h := h) (a := a) (s := opN (σ0.1 6 0) a) (x := x) (c := (σ0.1 7 0 a).toNatClampNeg) hg (lwok_T hm hL) (by rw [mT_get hm rfl]; exact e1) n5 hh (by omega) h3 h7 (by omega) h5
      rw [tw_T hm] at q1
      rw [op, Option.bind_some, cp, Option.bind_some, mT_get hm rfl, e3, q1, Option.bind_some]
      dsimp only
      rw [lN_mul, nI_1]
      have nx := ih (a + 1) f σ1 (by omega) (by omega) (q2.trans hm) q3
      have st : opN (σ0.1 6 0) (a + 1) = if σ0.1 6 0 a < 0 then opN (σ0.1 6 0) a else opN (σ0.1 6 0) a ||| 2 ^ (σ0.1 6 0 a).toNatClampNeg := rfl
      rcases h5 with e | ⟨D, hD, e, -⟩
      · rw [e, if_pos (by decide)] at st
        rw [st] at nx
        rw [if_pos e]
        exact nx
      · rw [e, if_neg (pu_n1l (by omega)), cl_nI (by omega)] at st
        have hne : ¬ σ0.1 6 0 a = -1 := by rw [e]; exact pu_n1 (by omega)
        have hor : nI (opN (σ0.1 6 0) a) ||| 1 <<< (σ0.1 6 0 a &&& 31) = nI (opN (σ0.1 6 0) (a + 1)) := by rw [e, (pu_or _ h3 D (by omega)).1, st]
        rw [if_neg hne, hor]
        exact nx
theorem wa_L {n t h : Nat} {W : Nat → Nat} {σ0 : ab_S} (n5 : n ≤ 5) (hE : EVC n t h W σ0) (hL : LwOK σ0) : ∀ (k j fuel : Nat) (σ : ab_S), j + k = n → k < fuel → mI σ = mI σ0 → R_gv σ → (∀ x, x < j → σ.2 27 0 x = lN (cw (n - 1) n (tw σ0 h) W (σ0.1 6 0) (σ0.1 7 0) x t)) → (∀ r, r ≠ 27 → σ.2 r = σ0.2 r) →
    ∃ σ', fX1_weighAll_b5 fuel (lN (sm (fun x => cw (n - 1) n (tw σ0 h) W (σ0.1 6 0) (σ0.1 7 0) x t) j)) (nI j) σ = some (lN (sm (fun x => cw (n - 1) n (tw σ0 h) W (σ0.1 6 0) (σ0.1 7 0) x t) n), σ') ∧ mI σ' = mI σ0 ∧ R_gv σ' ∧ (∀ x, x < n → σ'.2 27 0 x = lN (cw (n - 1) n (tw σ0 h) W (σ0.1 6 0) (σ0.1 7 0) x t)) ∧ (∀ r, r ≠ 27 → σ'.2 r = σ0.2 r) := by
  have hE0 := hE
  obtain ⟨e1, e2, e3, hh, e4, hA⟩ := hE
  intro k
  induction k with
  | zero =>
    intro j fuel σ h1 h2 hm hg hw hr
    obtain ⟨f, rfl⟩ : ∃ f, fuel = f + 1 := ⟨fuel - 1, by omega⟩
    refine ⟨σ, ?_, hm, hg, fun x hx => hw x (by omega), hr⟩
    show fX1_weighAll_b5_o _ _ _ _ = _
    unfold fX1_weighAll_b5_o
    rw [mI_get hm rfl, e1, if_pos (pu_le (by omega)), show j = n by omega]
  | succ k ih =>
    intro j fuel σ h1 h2 hm hg hw hr
    obtain ⟨f, rfl⟩ : ∃ f, fuel = f + 1 := ⟨fuel - 1, by omega⟩
    have hEσ : EVC n t h W σ := ⟨by rw [mI_get hm rfl]; exact e1, by rw [mI_get hm rfl]; exact e2, by rw [mI_get hm rfl]; exact e3, hh, fun d hd => ⟨(e4 d hd).1, by rw [mI_get hm rfl]; exact (e4 d hd).2⟩, by
      rw [show σ.1 6 0 = σ0.1 6 0 from funext fun i => mI_get hm rfl, show σ.1 7 0 = σ0.1 7 0 from funext fun i => mI_get hm rfl]; exact hA⟩
    obtain ⟨σ1, q1, q2, q3⟩ := wo_one n5 hEσ (lwok_I hm hL) (show j < n by omega) t 0 ab_N σ (by omega) (by rw [pu_N]; have := hA.1; omega) rfl hg
    rw [tw_I hm, show σ.1 6 0 = σ0.1 6 0 from funext fun i => mI_get hm rfl, show σ.1 7 0 = σ0.1 7 0 from funext fun i => mI_get hm rfl] at q1
    have w0 : fX1_weighOne (nI j) σ = some (lN (cw (n - 1) n (tw σ0 h) W (σ0.1 6 0) (σ0.1 7 0) j t), σ1) := by
      unfold fX1_weighOne
      rw [if_pos (inb_nI (by omega)), cl_nI (by omega), mI_get hm rfl, (e4 j (by omega)).2, nI_l (by have := (e4 j (by omega)).1; omega), pu_k]
      exact q1
    obtain ⟨σ', y1, y2⟩ := ih (j + 1) f (ab_sl σ1 27 0 j (lN (cw (n - 1) n (tw σ0 h) W (σ0.1 6 0) (σ0.1 7 0) j t))) (by omega) (by omega) ((mI_T q2).trans hm) q3 (fun x hx => by
      by_cases hxj : x = j
      · subst hxj; exact pu_slE
      · rw [pu_slJ hxj, T_2 q2]; exact hw x (by omega)) (fun r hr' => by rw [pu_slR hr', T_2 q2]; exact hr r hr')
    refine ⟨σ', ?_, y2⟩
    show fX1_weighAll_b5_o _ _ _ _ = _
    unfold fX1_weighAll_b5_o
    rw [mI_get hm rfl, e1, if_neg (pu_nle (by omega)), w0, Option.bind_some, if_pos (inb_nI (by omega)), cl_nI (by omega), pu_k, if_pos (inb_nI (by omega)), pu_slE, lN_add, nI_1]
    exact y1
/-- the reference's evening -/
def EVM (n t h : Nat) (W : Nat → Nat) (o ch : Nat → Int32) (σc σ : ab_S) : Prop := σ.1 0 0 6 = nI n ∧ σ.1 0 0 9 = nI t ∧ σ.1 1 0 5 = nI h ∧ h < 4 ∧ (∀ d, d < n → W d ≤ 12 ∧ σ.1 1 0 d = nI (W d)) ∧ AT n t o ch ∧ (∀ a, a < t → σ.1 5 0 a = o a ∧ σ.1 6 0 a = ch a) ∧ R_lw n σc σ
theorem cm_I {n t h x : Nat} {W : Nat → Nat} {o ch : Nat → Int32} {σc σ0 : ab_S} (n5 : n ≤ 5) (hE : EVM n t h W o ch σc σ0) (hx : x < n) {kk : Int64 → Int32 → ab_S → Option (Int64 × ab_S)} {v1 : Int64} : ∀ (k a fuel : Nat) (σ : ab_S), a + k = t → k < fuel → mJ σ = mJ σ0 → σ.2 22 = σ0.2 22 → σ.2 12 0 x = lN (cw 4 n (tw σc h) W o ch x a) →
    ∃ σ', fX10_comes_b28 kk fuel v1 (nI x) (nI a) σ = kk (v1 + lN (cw 4 n (tw σc h) W o ch x t)) (nI (x + 1)) σ' ∧ mJ σ' = mJ σ0 ∧ σ'.2 12 0 x = lN (cw 4 n (tw σc h) W o ch x t) ∧ (∀ x', x' ≠ x → σ'.2 12 0 x' = σ.2 12 0 x') ∧ (∀ r, r ≠ 12 → σ'.2 r = σ.2 r) := by
  obtain ⟨e1, e2, e3, hh, e4, hA, e5, hlw⟩ := hE
  have ht := hA.1
  intro k
  induction k with
  | zero =>
    intro a fuel σ h1 h2 hm h22 hw
    obtain ⟨f, rfl⟩ : ∃ f, fuel = f + 1 := ⟨fuel - 1, by omega⟩
    have hat : a = t := by omega
    subst hat
    refine ⟨σ, ?_, hm, hw, fun _ _ => rfl, fun _ _ => rfl⟩
    show fX10_comes_b28_o _ _ _ _ _ _ = _
    unfold fX10_comes_b28_o
    rw [mJ_get hm rfl, e2, if_pos (pu_le (by omega)), if_pos (inb_nI (by omega)), cl_nI (by omega), hw, nI_1]
  | succ k ih =>
    intro a fuel σ h1 h2 hm h22 hw
    obtain ⟨f, rfl⟩ : ∃ f, fuel = f + 1 := ⟨fuel - 1, by omega⟩
    obtain ⟨h3, h4, h5⟩ := hA.2 a (by omega)
    obtain ⟨h6, h7⟩ := isN_nI h4
    have ob : fX10_openBehind (nI a) σ = some (nI (opN o a)) := by
      rw [pu_openBehind (by omega) (fun a' ha' => by
        rw [mJ_get hm rfl, (e5 a' (by omega)).1]
        rcases (hA.2 a' (by omega)).2.2 with q | ⟨D, hD, q, -⟩
        · exact Or.inl q
        · exact Or.inr ⟨D, by omega, q⟩), opN_congr a (fun a' ha' => by rw [mJ_get hm rfl, (e5 a' (by omega)).1])]
    obtain ⟨σ1, q1, q2⟩ := shM_ok (n := n) (h := h) (a := a) (s := opN o a) (x := x) (c := (ch a).toNatClampNeg) (σm := σ) (R_lw_fr hlw rfl (mM_J hm h22)) (by rw [mJ_get hm rfl]; exact e1) n5 hh h3 h7 (by omega) h5
    have g5 : σ.1 5 0 a = o a := by rw [mJ_get hm rfl]; exact (e5 a (by omega)).1
    have g6 : σ.1 6 0 a = nI (ch a).toNatClampNeg := by rw [mJ_get hm rfl, ← h6]; exact (e5 a (by omega)).2
    have g1 : σ.1 1 0 5 = nI h := by rw [mJ_get hm rfl]; exact e3
    obtain ⟨σ', y1, y2, y3, y4, y5⟩ := ih (a + 1) f (ab_sl σ1 12 0 x (lN (cw 4 n (tw σc h) W o ch x (a + 1)))) (by omega) (by omega) ((mJ_G q2).trans hm) (by rw [pu_slR (by omega), G_2 q2]; exact h22) pu_slE
    refine ⟨σ', ?_, y2, y3, fun x' hx' => ?_, fun r hr => ?_⟩
    · show fX10_comes_b28_o _ _ _ _ _ _ = _
      unfold fX10_comes_b28_o
      rw [mJ_get hm (r := 0) rfl, e2, if_neg (pu_nle (by omega)), if_pos (inb_nI (by omega)), if_pos (show ab_inb 5 7 = true from rfl), if_pos (inb_nI (by omega)), ob, Option.bind_some, if_pos (inb_nI (by omega)), show ((5 : Int32)).toNatClampNeg = 5 from rfl, cl_nI (d := a) (by omega), cl_nI (d := x) (by omega), g1, g6, g5, q1, Option.bind_some, if_pos (inb_nI (by omega)), pu_k, hw, lN_mul, nI_1]
      exact y1
    · rw [y4 x' hx', pu_slJ hx', G_2 q2]
    · rw [y5 r hr, pu_slR hr, G_2 q2]
theorem cm_L {n t h : Nat} {W : Nat → Nat} {o ch : Nat → Int32} {σc σ0 : ab_S} (n5 : n ≤ 5) (hE : EVM n t h W o ch σc σ0) : ∀ (k j fuel : Nat) (σ : ab_S), j + k = n → k < fuel → mJ σ = mJ σ0 → (∀ x, x < j → σ.2 12 0 x = lN (cw 4 n (tw σc h) W o ch x t)) → (∀ r, r ≠ 12 → σ.2 r = σ0.2 r) →
    ∃ σ', fX10_comes_b4 fuel (lN (sm (fun x => cw 4 n (tw σc h) W o ch x t) j)) (nI j) σ = some (lN (sm (fun x => cw 4 n (tw σc h) W o ch x t) n), σ') ∧ mJ σ' = mJ σ0 ∧ (∀ x, x < n → σ'.2 12 0 x = lN (cw 4 n (tw σc h) W o ch x t)) ∧ (∀ r, r ≠ 12 → σ'.2 r = σ0.2 r) := by
  have hE0 := hE
  obtain ⟨e1, e2, e3, hh, e4, hA, e5, hlw⟩ := hE
  have ht := hA.1
  intro k
  induction k with
  | zero =>
    intro j fuel σ h1 h2 hm hw hr
    obtain ⟨f, rfl⟩ : ∃ f, fuel = f + 1 := ⟨fuel - 1, by omega⟩
    refine ⟨σ, ?_, hm, fun x hx => hw x (by omega), hr⟩
    show fX10_comes_b4_o _ _ _ _ = _
    unfold fX10_comes_b4_o
    rw [mJ_get hm rfl, e1, if_pos (pu_le (by omega)), show j = n by omega]
  | succ k ih =>
    intro j fuel σ h1 h2 hm hw hr
    obtain ⟨f, rfl⟩ : ∃ f, fuel = f + 1 := ⟨fuel - 1, by omega⟩
    obtain ⟨w1, w2⟩ := e4 j (by omega)
    obtain ⟨σ1, q1, q2, q3, q4, q5⟩ := cm_I (kk := fX10_comes_b4 f) (v1 := lN (sm (fun x => cw 4 n (tw σc h) W o ch x t) j)) n5 hE0 (show j < n by omega) t 0 ab_N (ab_sl σ 12 0 j (lN (W j))) (by omega) (by rw [pu_N]; omega) hm (by rw [pu_slR (by omega)]; exact hr 22 (by omega)) pu_slE
    obtain ⟨σ', y1, y2⟩ := ih (j + 1) f σ1 (by omega) (by omega) q2 (fun x hx => by
      by_cases hxj : x = j
      · subst hxj; exact q3
      · rw [q4 x hxj, pu_slJ hxj]; exact hw x (by omega)) (fun r hr' => by rw [q5 r hr', pu_slR hr']; exact hr r hr')
    refine ⟨σ', ?_, y2⟩
    show fX10_comes_b4_o _ _ _ _ = _
    unfold fX10_comes_b4_o
    rw [mJ_get hm rfl, e1, if_neg (pu_nle (by omega)), if_pos (inb_nI (by omega)), if_pos (inb_nI (by omega)), cl_nI (by omega), pu_k, mJ_get hm rfl, w2, nI_l (by omega), show (0 : Int32) = nI 0 from rfl, q1, lN_add]
    exact y1
