/-! PURE, 38: drawn -/
theorem us_8 (x : Int32) : ∃ v, v < 2 ^ 24 ∧ ab_ushr x 8 = nI v := by
  have h8 : (Int32.toUInt32 8 &&& Int32.toUInt32 31) = 8 := by decide
  refine ⟨(x.toUInt32 >>> 8).toNat, ?_, ?_⟩
  · rw [UInt32.toNat_shiftRight]
    have := x.toUInt32.toNat_lt
    rw [show ((8 : UInt32)).toNat % 32 = 8 from rfl, Nat.shiftRight_eq_div_pow]
    omega
  · unfold ab_ushr
    rw [h8]
    show UInt32.toInt32 (x.toUInt32 >>> 8) = Int32.ofNat (x.toUInt32 >>> 8).toNat
    generalize x.toUInt32 >>> 8 = u
    have : Int32.ofNat u.toNat = (UInt32.ofNat u.toNat).toInt32 := rfl
    rw [this, UInt32.ofNat_toNat]
/-- one drawing below k -/
def dz (z : Int32) : Int32 := z * 1103515245 + 12345
theorem dr_x (z : Int32) {k : Nat} (hk : 0 < k) (hk2 : k < 2 ^ 31) : ∃ v, v < k ∧ ab_mod (ab_ushr (dz z) 8) (nI k) = nI v := by
  obtain ⟨v, hv, e⟩ := us_8 (dz z)
  refine ⟨v % k, Nat.mod_lt _ hk, ?_⟩
  rw [e]
  exact pk_rem (d := k) (by omega) hk hk2
theorem dr_C {σ : ab_S} {k : Nat} (hk : 0 < k) (hk2 : k < 2 ^ 31) : fX3_drawOf (nI k) σ = some (ab_mod (ab_ushr (dz (σ.1 35 0 2)) 8) (nI k), ab_si σ 35 0 2 (dz (σ.1 35 0 2))) := by
  unfold fX3_drawOf fX3_drawOf_b32
  rw [pu_k, if_neg (fun z => by rw [Int32.le_iff_toInt_le, nI_toInt hk2, Int32.toInt_zero] at z; omega), if_neg (pu_n0 hk hk2), pu_siE]
  rfl
theorem dr_M {σ : ab_S} {k : Nat} (hk : 0 < k) (hk2 : k < 2 ^ 31) : fX10_draws (nI k) σ = some (ab_mod (ab_ushr (dz (σ.1 0 0 26)) 8) (nI k), ab_si σ 0 0 26 (dz (σ.1 0 0 26))) := by
  unfold fX10_draws
  rw [pu_k, if_neg (pu_n0 hk hk2), pu_siE]
  rfl
/-- the door of the cow -/
def cowAt (W : Nat → Nat) : Nat → Nat → Nat → Nat
  | 0, j, _ => j
  | k + 1, j, v => if v < W j then j else cowAt W k (j + 1) (v - W j)
section
variable {n : Nat} {W : Nat → Nat}
theorem cow_C {σ : ab_S} (hn : σ.1 1 0 3 = nI n) (n5 : n ≤ 5) (hW : ∀ d, d < n → W d ≤ 12 ∧ σ.1 2 0 d = nI (W d)) : ∀ (k j v fuel : Nat), j + k = n → k < fuel → v + sm W j < sm W n → fX3_drawCow_b14 fuel (nI v) (nI j) σ = some (nI (cowAt W k j v), σ) ∧ cowAt W k j v < n := by
  have sb := sm_le (f := W) (B := 12) n (fun d hd => (hW d hd).1)
  intro k
  induction k with
  | zero =>
    intro j v fuel h1 h2 h3
    rw [show j = n by omega] at h3
    omega
  | succ k ih =>
    intro j v fuel h1 h2 h3
    obtain ⟨f, rfl⟩ : ∃ f, fuel = f + 1 := ⟨fuel - 1, by omega⟩
    obtain ⟨w1, w2⟩ := hW j (by omega)
    show fX3_drawCow_b14_o _ _ _ _ = _ ∧ (if v < W j then j else cowAt W k (j + 1) (v - W j)) < n
    have e : cowAt W (k + 1) j v = if v < W j then j else cowAt W k (j + 1) (v - W j) := rfl
    unfold fX3_drawCow_b14_o
    rw [hn, if_neg (pu_nle (by omega)), if_pos (inb_nI (by omega)), cl_nI (by omega), w2, e, nI_1]
    by_cases q : v < W j
    · rw [if_pos q, if_neg (fun z => by
        rw [Int32.le_iff_toInt_le, pk_sub_toInt (a := v) (b := W j) (by omega) (by omega), Int32.toInt_zero] at z
        omega)]
      exact ⟨rfl, by omega⟩
    · rw [if_neg q, pk_sub (by omega), if_pos (show (0 : Int32) ≤ nI (v - W j) from pu_le (a := 0) (by omega))]
      exact ih (j + 1) (v - W j) f (by omega) (by omega) (by
        show v - W j + (sm W j + W j) < _
        omega)
theorem cow_M {σ : ab_S} (n5 : n ≤ 5) (hW : ∀ d, d < n → W d ≤ 12 ∧ σ.1 1 0 d = nI (W d)) : ∀ (k j v fuel : Nat), j + k = n → k < fuel → v + sm W j < sm W n → fX10_drawnCow_b11 fuel (nI v) (nI j) σ = some (nI (cowAt W k j v), σ) := by
  have sb := sm_le (f := W) (B := 12) n (fun d hd => (hW d hd).1)
  intro k
  induction k with
  | zero =>
    intro j v fuel h1 h2 h3
    rw [show j = n by omega] at h3
    omega
  | succ k ih =>
    intro j v fuel h1 h2 h3
    obtain ⟨f, rfl⟩ : ∃ f, fuel = f + 1 := ⟨fuel - 1, by omega⟩
    obtain ⟨w1, w2⟩ := hW j (by omega)
    show fX10_drawnCow_b11_o _ _ _ _ = _
    have e : cowAt W (k + 1) j v = if v < W j then j else cowAt W k (j + 1) (v - W j) := rfl
    unfold fX10_drawnCow_b11_o
    rw [if_pos (inb_nI (by omega)), cl_nI (by omega), w2, e, nI_1]
    by_cases q : v < W j
    · rw [if_pos q, if_pos (pu_lt q)]
    · rw [if_neg q, if_neg (pu_nlt (by omega)), if_pos (inb_nI (by omega)), pk_sub (by omega)]
      exact ih (j + 1) (v - W j) f (by omega) (by omega) (by
        show v - W j + (sm W j + W j) < _
        omega)
end
/-- both states while evenings are drawn -/
def JD (σc σm σ τ : ab_S) : Prop := mB σ = mB σc ∧ R_gv σ ∧ mM τ = mM σm ∧ σ.1 35 0 2 = τ.1 0 0 26
theorem tw_B {σ σ' : ab_S} (h : mB σ' = mB σ) (k : Nat) : tw σ' k = tw σ k := by
  unfold tw
  rw [mB_get (k := k) h (r := 23) (i := 3) rfl, mB_get (k := k) h (r := 23) (i := 5) rfl, mB_get (k := k) h (r := 23) (i := 6) rfl, show σ'.1 24 k = σ.1 24 k from funext fun i => mB_get h rfl]
theorem lwok_B {σ σ' : ab_S} (h : mB σ' = mB σ) (hg : LwOK σ) : LwOK σ' := by
  intro k hk
  rw [mB_get h (r := 23) (i := 5) rfl, mB_get h (r := 23) (i := 3) rfl]
  exact hg k hk
def rC_ (o : Option Nat) : Int32 := match o with
  | none => -1
  | some D => nI D
def rM_ (s : Nat) (o : Option Nat) : Nat := match o with
  | none => s
  | some D => s ||| 2 ^ D
theorem da_L {n h a s c x : Nat} {σc σm : ab_S} (hst : R_st n σc σm) (hlw : R_lw n σc σm) (n5 : n ≤ 5) (hh : h < 4) (eh : σc.1 1 0 4 = nI h) (em : σm.1 1 0 5 = nI h) (ha : a ≤ 3) (hs : s < 32) (hc : c < n) (hx : x < n) : ∀ (k d fuel fuel2 : Nat) (σ τ : ab_S), d + k = n → k < fuel → k < fuel2 → JD σc σm σ τ → ∃ (o : Option Nat) (σ' τ' : ab_S), fX3_drawAct_b9 fuel (nI a) (nI s) (nI c) (nI x) (nI (pc s)) (nI d) σ = some (rC_ o, σ') ∧ fX10_drawnOpen_b3 fuel2 (nI x) (nI c) (nI s) (nI a) (nI d) τ = some (nI (rM_ s o), τ') ∧ JD σc σm σ' τ' ∧ ∀ D, o = some D → D < n := by
  intro k
  induction k with
  | zero =>
    intro d fuel fuel2 σ τ h1 h2 h3 hj
    obtain ⟨f, rfl⟩ : ∃ f, fuel = f + 1 := ⟨fuel - 1, by omega⟩
    obtain ⟨f2, rfl⟩ : ∃ f, fuel2 = f + 1 := ⟨fuel2 - 1, by omega⟩
    refine ⟨none, σ, τ, ?_, ?_, hj, fun D e => by cases e⟩
    · show fX3_drawAct_b9_o _ _ _ _ _ _ _ _ = _
      unfold fX3_drawAct_b9_o
      rw [mB_get hj.1 rfl, hst.1, if_pos (pu_le (by omega))]
      rfl
    · show fX10_drawnOpen_b3_o _ _ _ _ _ _ _ = _
      unfold fX10_drawnOpen_b3_o
      rw [mM_get hj.2.2.1 rfl, hst.2.1, if_pos (pu_le (by omega))]
      rfl
  | succ k ih =>
    intro d fuel fuel2 σ τ h1 h2 h3 hj
    obtain ⟨f, rfl⟩ : ∃ f, fuel = f + 1 := ⟨fuel - 1, by omega⟩
    obtain ⟨f2, rfl⟩ : ∃ f, fuel2 = f + 1 := ⟨fuel2 - 1, by omega⟩
    have nx := fun σ1 τ1 => ih (d + 1) f f2 σ1 τ1 (by omega) (by omega) (by omega)
    show ∃ o σ' τ', fX3_drawAct_b9_o (fX3_drawAct_b9 f) _ _ _ _ _ _ σ = some (rC_ o, σ') ∧ fX10_drawnOpen_b3_o (fX10_drawnOpen_b3 f2) _ _ _ _ _ τ = some (nI (rM_ s o), τ') ∧ _
    unfold fX3_drawAct_b9_o fX3_drawAct_b66 fX10_drawnOpen_b3_o fX10_drawnOpen_b60
    rw [mB_get hj.1 (r := 1) rfl, hst.1, if_neg (pu_nle (by omega)), mM_get hj.2.2.1 (r := 0) (i := 6) rfl, hst.2.1, if_neg (pu_nle (by omega)), nI_1]
    by_cases hdc : d = c
    · rw [if_pos (by rw [hdc]), if_pos (by rw [hdc])]
      exact nx σ τ hj
    · rw [if_neg (pu_ne hdc), if_neg (pu_ne hdc), pu_isInC s hs d (by omega), pu_isInM s hs d (by omega), Option.bind_some, Option.bind_some]
      cases hb : s.testBit d with
      | true =>
        simp only [pu_10, ↓reduceIte]
        exact nx σ τ hj
      | false =>
        simp only [Bool.false_eq_true, ↓reduceIte]
        obtain ⟨v, hv, ev⟩ := dr_x (σ.1 35 0 2) (k := 12) (by omega) (by omega)
        have dC : fX3_drawOf 12 σ = some (nI v, ab_si σ 35 0 2 (dz (σ.1 35 0 2))) := by
          rw [← ev]; exact dr_C (k := 12) (by omega) (by omega)
        have dM : fX10_draws 12 τ = some (nI v, ab_si τ 0 0 26 (dz (σ.1 35 0 2))) := by
          rw [← ev, hj.2.2.2]; exact dr_M (k := 12) (by omega) (by omega)
        have jb : mB (ab_si σ 35 0 2 (dz (σ.1 35 0 2))) = mB σc := (mB_si (by decide)).trans hj.1
        have jm : mM (ab_si τ 0 0 26 (dz (σ.1 35 0 2))) = mM σm := (mM_si (by decide)).trans hj.2.2.1
        obtain ⟨σ1, q1, q2, q3⟩ := twh_ok (σ := ab_si σ 35 0 2 (dz (σ.1 35 0 2))) hj.2.1 (lwok_B jb (lwok hlw)) (h := h) (a := a) (r := pc s) (c := c) (d := d) (x := x) (by rw [mB_get jb rfl]; exact eh) hh ha (pu_pcC s hs).2 (by omega) (by omega) (by omega)
        rw [tw_B jb] at q1
        obtain ⟨τ1, z1, z2⟩ := gives_ok (σm := ab_si τ 0 0 26 (dz (σ.1 35 0 2))) (R_lw_fr hlw rfl jm) (by rw [mM_get jm rfl]; exact hst.2.1) (h := h) (d := d) (x := x) (c := c) (s := s) (a := a) hh (by omega) (by omega) hs
        have tl : tw σc h a (pc s) c d x ≤ 12 := twV_le _ _ _ _ _ _ _ _ _
        have hj1 : JD σc σm σ1 τ1 := ⟨(mB_T q2).trans jb, q3, (mM_G z2).trans jm, by rw [mT_get q2 rfl, mG_get z2 rfl, pu_siE, pu_siE]⟩
        rw [dC, dM, Option.bind_some, Option.bind_some]
        dsimp only
        rw [q1, Option.bind_some, if_pos (show ab_inb 5 7 = true from rfl), show ((5 : Int32)).toNatClampNeg = 5 from rfl, mM_get jm rfl, em, z1, Option.bind_some]
        dsimp only
        by_cases q : tw σc h a (pc s) c d x ≤ v
        · rw [if_pos (pu_le q), if_pos (pu_le q)]
          exact nx σ1 τ1 hj1
        · rw [if_neg (pu_nle (by omega)), if_neg (pu_nle (by omega)), (pu_or s hs d (by omega)).1]
          exact ⟨some d, σ1, τ1, rfl, rfl, hj1, fun D e => by cases e; omega⟩
def plus (e j : Nat) : Int32 := if e = j then 1 else 0
theorem eo_L {n A h x way : Nat} {σc σm : ab_S} {kk : Int32 → Int32 → Int32 → Int32 → Int32 → ab_S → Option (Int32 × ab_S)} {v2 v3 v4 v5 v6 : Int32} (hst : R_st n σc σm) (hlw : R_lw n σc σm) (n5 : n ≤ 5) (hh : h < 4) (eh : σc.1 1 0 4 = nI h) (em : σm.1 1 0 5 = nI h) (hA : A ≤ 3) (eA : σc.1 1 0 5 = nI A) (eA' : σm.1 1 0 6 = nI A) (hx : x < n) (hway : way ≤ 2) (e2 : ab_mod v2 10 = nI way) : ∀ (k a s c fuel fuel2 : Nat) (σ τ : ab_S), a + k = A → k < fuel → k < fuel2 → s < 32 → c < n → JD σc σm σ τ → ∃ (e : Nat) (σ' τ' : ab_S), e ≤ 2 ∧ fX3_endOfOne_b14 fuel (nI way) (nI x) (nI s) (nI c) (nI a) σ = some (nI e, σ') ∧ fX10_drawn_b90 kk fuel2 v2 v3 v4 v5 v6 (nI x) (nI c) (nI s) (nI a) τ = kk v2 v3 (v4 + plus e 1) (v5 + plus e 2) (v6 + 1) τ' ∧ JD σc σm σ' τ' := by
  intro k
  induction k with
  | zero =>
    intro a s c fuel fuel2 σ τ h1 h2 h3 hs hc hj
    obtain ⟨f, rfl⟩ : ∃ f, fuel = f + 1 := ⟨fuel - 1, by omega⟩
    obtain ⟨f2, rfl⟩ : ∃ f, fuel2 = f + 1 := ⟨fuel2 - 1, by omega⟩
    have hl := lo_lt (s := s) hc n 0 (by omega)
    have fin : ∀ c', c' < n → ∃ e, e ≤ 2 ∧ fX3_endOfOne_b96 (nI x) (nI s) (nI c') σ = some (nI e, σ) ∧ fX10_drawn_b166 kk v2 v3 v4 v5 v6 (nI x) (nI s) (nI c') τ = kk v2 v3 (v4 + plus e 1) (v5 + plus e 2) (v6 + 1) τ := fun c' hc' => by
      unfold fX3_endOfOne_b96 fX3_endOfOne_b118 fX10_drawn_b166 fX10_drawn_b185 fX10_drawn_b211 fX10_drawn_b212
      rw [pu_isInC s hs x (by omega), pu_isInM s hs x (by omega), Option.bind_some, Option.bind_some, Option.bind_some, Option.bind_some]
      cases s.testBit x with
      | true => exact ⟨2, by omega, rfl, rfl⟩
      | false =>
        simp only [Bool.false_eq_true, ↓reduceIte]
        by_cases q : x = c'
        · rw [if_pos (by rw [q]), if_pos (by rw [q])]
          exact ⟨1, by omega, rfl, rfl⟩
        · rw [if_neg (pu_ne q), if_neg (pu_ne (fun z => q z.symm))]
          exact ⟨0, by omega, rfl, rfl⟩
    show ∃ e σ' τ', e ≤ 2 ∧ fX3_endOfOne_b14_o (fX3_endOfOne_b14 f) _ _ _ _ _ σ = some (nI e, σ') ∧ fX10_drawn_b90_o kk (fX10_drawn_b90 kk f2) _ _ _ _ _ _ _ _ _ τ = _ ∧ _
    unfold fX3_endOfOne_b14_o fX10_drawn_b90_o
    rw [mB_get hj.1 rfl, eA, if_pos (pu_le (by omega)), if_pos (show ab_inb 6 7 = true from rfl), show ((6 : Int32)).toNatClampNeg = 6 from rfl, mM_get hj.2.2.1 rfl, eA', if_pos (pu_le (by omega)), e2, leC (by rw [mB_get hj.1 rfl]; exact hst.1) n5 hs hc, leM (by rw [mM_get hj.2.2.1 rfl]; exact hst.2.1) n5 hs hc, Option.bind_some, Option.bind_some]
    by_cases w1 : nI way = 1
    · rw [if_pos w1, if_pos w1]
      obtain ⟨e, g1, g2, g3⟩ := fin _ hl
      exact ⟨e, σ, τ, g1, g2, g3, hj⟩
    · rw [if_neg w1, if_neg w1]
      obtain ⟨e, g1, g2, g3⟩ := fin _ hc
      exact ⟨e, σ, τ, g1, g2, g3, hj⟩
  | succ k ih =>
    intro a s c fuel fuel2 σ τ h1 h2 h3 hs hc hj
    obtain ⟨f, rfl⟩ : ∃ f, fuel = f + 1 := ⟨fuel - 1, by omega⟩
    obtain ⟨f2, rfl⟩ : ∃ f, fuel2 = f + 1 := ⟨fuel2 - 1, by omega⟩
    obtain ⟨o, σ1, τ1, q1, q2, q3, q4⟩ := da_L (h := h) (a := a) (s := s) (c := c) (x := x) hst hlw n5 hh eh em (by omega) hs hc hx n 0 ab_N ab_N σ τ (by omega) (by rw [pu_N]; omega) (by rw [pu_N]; omega) hj
    have hs' : rM_ s o < 32 := by
      cases o with
      | none => exact hs
      | some D => exact (pu_or s hs D (by have := q4 D rfl; omega)).2
    have dA : fX3_drawAct (nI a) (nI s) (nI c) (nI x) σ = some (rC_ o, σ1) := by
      unfold fX3_drawAct
      rw [(pu_pcC s hs).1, Option.bind_some]
      exact q1
    have dO : fX10_drawnOpen (nI x) (nI c) (nI s) (nI a) τ = some (nI (rM_ s o), τ1) := q2
    have hl := lo_lt (s := rM_ s o) hc n 0 (by omega)
    have go : ∃ e σ' τ', e ≤ 2 ∧ fX3_endOfOne_b54 (fX3_endOfOne_b14 f) (nI way) (nI x) (nI (rM_ s o)) (nI c) (nI a) σ1 = some (nI e, σ') ∧ (if nI way = 2 then (fX10_leastOther (nI c) (nI (rM_ s o)) τ1).bind fun q7 => fX10_drawn_b137 kk (fX10_drawn_b90 kk f2) v2 v3 v4 v5 v6 (nI x) (nI (rM_ s o)) (nI a) q7 τ1 else fX10_drawn_b137 kk (fX10_drawn_b90 kk f2) v2 v3 v4 v5 v6 (nI x) (nI (rM_ s o)) (nI a) (nI c) τ1) = kk v2 v3 (v4 + plus e 1) (v5 + plus e 2) (v6 + 1) τ' ∧ JD σc σm σ' τ' := by
      unfold fX3_endOfOne_b54 fX3_endOfOne_b72 fX10_drawn_b137
      rw [leC (by rw [mB_get q3.1 rfl]; exact hst.1) n5 hs' hc, leM (by rw [mM_get q3.2.2.1 rfl]; exact hst.2.1) n5 hs' hc, Option.bind_some, Option.bind_some, nI_1]
      by_cases w2 : nI way = 2
      · rw [if_pos w2, if_pos w2]
        exact ih (a + 1) (rM_ s o) _ f f2 σ1 τ1 (by omega) (by omega) (by omega) hs' hl q3
      · rw [if_neg w2, if_neg w2]
        exact ih (a + 1) (rM_ s o) c f f2 σ1 τ1 (by omega) (by omega) (by omega) hs' hc q3
    show ∃ e σ' τ', e ≤ 2 ∧ fX3_endOfOne_b14_o (fX3_endOfOne_b14 f) _ _ _ _ _ σ = some (nI e, σ') ∧ fX10_drawn_b90_o kk (fX10_drawn_b90 kk f2) _ _ _ _ _ _ _ _ _ τ = _ ∧ _
    unfold fX3_endOfOne_b14_o fX10_drawn_b90_o
    rw [mB_get hj.1 rfl, eA, if_neg (pu_nle (by omega)), if_pos (show ab_inb 6 7 = true from rfl), show ((6 : Int32)).toNatClampNeg = 6 from rfl, mM_get hj.2.2.1 rfl, eA', if_neg (pu_nle (by omega)), e2, dA, dO, Option.bind_some, Option.bind_some]
    dsimp only
    cases o with
    | none =>
      rw [if_pos (show rC_ none = -1 from rfl)]
      exact go
    | some D =>
      have hD := q4 D rfl
      have e1 : rC_ (some D) = nI D := rfl
      rw [e1, if_neg (pu_n1 (by omega)), (pu_or s hs D (by omega)).1]
      exact go
theorem dl_L {n A h c way N y a : Nat} {W : Nat → Nat} {σc σm : ab_S} (hst : R_st n σc σm) (hlw : R_lw n σc σm) (n2 : 2 ≤ n) (n5 : n ≤ 5) (hh : h < 4) (eh : σc.1 1 0 4 = nI h) (em : σm.1 1 0 5 = nI h) (hA : A ≤ 3) (eA : σc.1 1 0 5 = nI A) (eA' : σm.1 1 0 6 = nI A) (hc : c < n) (e3 : σc.1 5 0 4 = nI c) (e4 : σm.1 0 0 8 = nI c) (hW : ∀ d, d < n → W d ≤ 12 ∧ σc.1 2 0 d = nI (W d) ∧ σm.1 1 0 d = nI (W d)) (hz : 0 < sm W n) (hway : way ≤ 2) (hy : y ≤ 1) (hN : N ≤ 50) (ed : nI a / 10 = nI N) (er : ab_mod (nI a) 10 = nI way) : ∀ (k j fuel fuel2 : Nat) (v4 v5 : Int32) (σ τ : ab_S), j + k = N → k < fuel → k < fuel2 → JD σc σm σ τ → ∃ r σ' τ', fX9_drawn_b87 fuel (nI N) (nI way) (nI (y + 1)) (if y = 0 then v4 else v5) (nI j) σ = some (r, σ') ∧ fX10_drawn_b63 fuel2 (nI a) (nI y) v4 v5 (nI j) τ = some (r, τ') ∧ JD σc σm σ' τ' := by
  have sb := sm_le (f := W) (B := 12) n (fun d hd => (hW d hd).1)
  intro k
  induction k with
  | zero =>
    intro j fuel fuel2 v4 v5 σ τ h1 h2 h3 hj
    obtain ⟨f, rfl⟩ : ∃ f, fuel = f + 1 := ⟨fuel - 1, by omega⟩
    obtain ⟨f2, rfl⟩ : ∃ f, fuel2 = f + 1 := ⟨fuel2 - 1, by omega⟩
    refine ⟨if y = 0 then v4 else v5, σ, τ, ?_, ?_, hj⟩
    · show fX9_drawn_b87_o _ _ _ _ _ _ _ = _
      unfold fX9_drawn_b87_o
      rw [if_pos (pu_le (by omega))]
    · show fX10_drawn_b63_o _ _ _ _ _ _ _ = _
      unfold fX10_drawn_b63_o fX10_drawn_b232
      rw [ed, if_pos (pu_le (by omega))]
      rcases (show y = 0 ∨ y = 1 by omega) with rfl | rfl
      · rfl
      · rfl
  | succ k ih =>
    intro j fuel fuel2 v4 v5 σ τ h1 h2 h3 hj
    obtain ⟨f, rfl⟩ : ∃ f, fuel = f + 1 := ⟨fuel - 1, by omega⟩
    obtain ⟨f2, rfl⟩ : ∃ f, fuel2 = f + 1 := ⟨fuel2 - 1, by omega⟩
    obtain ⟨v, hv, ev⟩ := dr_x (σ.1 35 0 2) (k := sm W n) hz (by omega)
    have dC : fX3_drawOf (nI (sm W n)) σ = some (nI v, ab_si σ 35 0 2 (dz (σ.1 35 0 2))) := by
      rw [← ev]; exact dr_C hz (by omega)
    have dM : fX10_draws (nI (sm W n)) τ = some (nI v, ab_si τ 0 0 26 (dz (σ.1 35 0 2))) := by
      rw [← ev, hj.2.2.2]; exact dr_M hz (by omega)
    have jb : mB (ab_si σ 35 0 2 (dz (σ.1 35 0 2))) = mB σc := (mB_si (by decide)).trans hj.1
    have jm : mM (ab_si τ 0 0 26 (dz (σ.1 35 0 2))) = mM σm := (mM_si (by decide)).trans hj.2.2.1
    have hj1 : JD σc σm (ab_si σ 35 0 2 (dz (σ.1 35 0 2))) (ab_si τ 0 0 26 (dz (σ.1 35 0 2))) := ⟨jb, hj.2.1, jm, by rw [pu_siE, pu_siE]⟩
    obtain ⟨cC, cl⟩ := cow_C (W := W) (σ := ab_si σ 35 0 2 (dz (σ.1 35 0 2))) (by rw [mB_get jb rfl]; exact hst.1) n5 (fun d hd => ⟨(hW d hd).1, by rw [mB_get jb rfl]; exact (hW d hd).2.1⟩) n 0 v ab_N (by omega) (by rw [pu_N]; omega) (by show v + 0 < _; omega)
    have cM := cow_M (W := W) (σ := ab_si τ 0 0 26 (dz (σ.1 35 0 2))) n5 (fun d hd => ⟨(hW d hd).1, by rw [mM_get jm rfl]; exact (hW d hd).2.2⟩) n 0 v ab_N (by omega) (by rw [pu_N]; omega) (by show v + 0 < _; omega)
    have wC : fX3_drawCow σ = some (nI (cowAt W n 0 v), ab_si σ 35 0 2 (dz (σ.1 35 0 2))) := by
      unfold fX3_drawCow
      rw [tg_c (W := W) (by rw [mB_get hj.1 rfl]; exact hst.1) n5 (fun d hd => by rw [mB_get hj.1 rfl]; exact (hW d hd).2.1), Option.bind_some, dC, Option.bind_some]
      exact cC
    have wM : fX10_drawnCow τ = some (nI (cowAt W n 0 v), ab_si τ 0 0 26 (dz (σ.1 35 0 2))) := by
      unfold fX10_drawnCow
      rw [al_m (W := W) (by rw [mM_get hj.2.2.1 rfl]; exact hst.2.1) n5 (fun d hd => by rw [mM_get hj.2.2.1 rfl]; exact (hW d hd).2.2), Option.bind_some, dM, Option.bind_some]
      exact cM
    obtain ⟨e, σ1, τ1, g1, g2, g3, g4⟩ := eo_L (kk := fX10_drawn_b63 f2) (v2 := nI a) (v3 := nI y) (v4 := v4) (v5 := v5) (v6 := nI j) (x := cowAt W n 0 v) (way := way) hst hlw n5 hh eh em hA eA eA' cl hway er A 0 0 c ab_N ab_N _ _ (by omega) (by rw [pu_N]; omega) (by rw [pu_N]; omega) (by omega) hc hj1
    have eo : fX3_endOfOne (nI way) (nI c) σ = some (nI e, σ1) := by
      unfold fX3_endOfOne
      rw [wC, Option.bind_some]
      exact g2
    obtain ⟨r, σ2, τ2, y1, y2, y3⟩ := ih (j + 1) f f2 (v4 + plus e 1) (v5 + plus e 2) σ1 τ1 (by omega) (by omega) (by omega) g4
    refine ⟨r, σ2, τ2, ?_, ?_, y3⟩
    · show fX9_drawn_b87_o (fX9_drawn_b87 f) _ _ _ _ _ _ = _
      unfold fX9_drawn_b87_o fX9_drawn_b118
      rw [if_neg (pu_nle (by omega)), mB_get hj.1 rfl, e3, eo, Option.bind_some, nI_1]
      dsimp only
      rw [← y1]
      have z0 : ∀ u : Int32, u + 0 = u := fun u => Int32.add_zero u
      rcases (show y = 0 ∨ y = 1 by omega) with rfl | rfl
      · rcases (show e = 0 ∨ e = 1 ∨ e = 2 by omega) with rfl | rfl | rfl
        · show fX9_drawn_b87 f _ _ _ v4 _ _ = fX9_drawn_b87 f _ _ _ (v4 + 0) _ _
          rw [z0]
        · rfl
        · show fX9_drawn_b87 f _ _ _ v4 _ _ = fX9_drawn_b87 f _ _ _ (v4 + 0) _ _
          rw [z0]
      · rcases (show e = 0 ∨ e = 1 ∨ e = 2 by omega) with rfl | rfl | rfl
        · show fX9_drawn_b87 f _ _ _ v5 _ _ = fX9_drawn_b87 f _ _ _ (v5 + 0) _ _
          rw [z0]
        · show fX9_drawn_b87 f _ _ _ v5 _ _ = fX9_drawn_b87 f _ _ _ (v5 + 0) _ _
          rw [z0]
        · rfl
    · show fX10_drawn_b63_o (fX10_drawn_b63 f2) _ _ _ _ _ _ = _
      unfold fX10_drawn_b63_o
      rw [ed, if_neg (pu_nle (by omega)), wM, Option.bind_some]
      dsimp only
      rw [mM_get jm rfl, e4]
      rw [nI_1] at g3
      exact g3.trans y2

section
variable {i : Nat} {σc σm : ab_S}
theorem pp_drawn (h : Rel i σc σm) (hi : i ≤ 3072) (a0 : Int32) (a1 : Int32) (a2 : Int32) : ∃ (r : Int32) (σc1 : ab_S) (σm1 : ab_S), fX9_drawn a0 a1 a2 σc = some (r, σc1) ∧ fX10_drawn a0 a1 a2 σm = some (r, σm1) ∧ Rel (i + 6) σc1 σm1 := by
  have hh0 := h
  have h0 := Rel_mono h
  obtain ⟨n, b, n2, n5, hst, hev, him, hch, htp, hlw, hgv, hbs, hbd, hsh⟩ := h
  obtain ⟨W, hW, hWe⟩ := st_W hst
  obtain ⟨A, hA1, hA, eA, eA'⟩ := acts_x hst
  obtain ⟨⟨k, hk, k1⟩, k2⟩ := hst.2.2.2.2.1
  obtain ⟨t, c, s, ht, hc, hs, e1, e2, e3, e4, e5, e6, e7⟩ := ev_x hev n5
  unfold fX9_drawn fX10_drawn fX9_drawn_b25 fX9_drawn_b47 fX10_drawn_b37
  by_cases hneg : a1 < 0
  · rw [if_pos hneg]
    obtain ⟨m, m1, m2, m3⟩ := neg_nat hneg
    have dv : (a1 / 10).toInt = _ := div_neg (K := 10) m1 m2 (by omega) (by omega)
    rw [if_pos (show a1 / 10 < 1 from by rw [Int32.lt_iff_toInt_lt, dv, show (1 : Int32).toInt = 1 from rfl]; omega)]
    exact ⟨-1, σc, σm, rfl, rfl, h0⟩
  rw [if_neg hneg]
  obtain ⟨a, ha, rfl⟩ := nI_of hneg
  have ed : nI a / 10 = nI (a / 10) := pk_div (d := 10) ha (by omega) (by omega)
  have er : ab_mod (nI a) 10 = nI (a % 10) := pk_rem (d := 10) ha (by omega) (by omega)
  rw [ed, er]
  rcases pu_rng (nI (a / 10)) 1 50 with hv | ⟨N, N0, N1, eN⟩
  · rw [show fX10_within (nI (a / 10)).toInt64 1 50 = some 0 from pu_wi_no (lo := 1) (hi := 50) hv]
    refine ⟨-1, σc, σm, ?_, rfl, h0⟩
    by_cases q : nI (a / 10) < 1
    · rw [if_pos q]
    · rw [if_neg q, if_neg (fun z => by
        have w := hv.resolve_left q
        rw [Int32.lt_iff_toInt_lt, nI_toInt (by omega), nI_toInt (by omega)] at w
        rw [Int32.le_iff_toInt_le, nI_toInt (by omega), show (50 : Int32).toInt = 50 from rfl] at z
        omega)]
  have eN' : a / 10 = N := (nI_eq (by omega) (by omega)).mp eN
  rw [show fX10_within (nI (a / 10)).toInt64 1 50 = some 1 from pu_wi_yes (lo := 1) (hi := 50) (by omega) (by omega), Option.bind_some, if_neg pu_10, if_neg (pl_nlt (b := 1) (by omega)), if_pos (pl_le (b := 50) (by omega)), if_neg (pu_n1l (by omega))]
  by_cases hw : 2 < a % 10
  · rw [if_pos (show (2 : Int32) < nI (a % 10) from pu_lt (a := 2) hw), if_pos (show (2 : Int32) < nI (a % 10) from pu_lt (a := 2) hw)]
    exact ⟨-1, σc, σm, rfl, rfl, h0⟩
  have hw' : ¬ (2 : Int32) < nI (a % 10) := pr_nlt (b := 2) (by omega)
  rw [if_neg hw', if_neg hw']
  rcases pu_rng a2 0 1 with hv | ⟨y, y0, y1, rfl⟩
  · rw [show fX10_within a2.toInt64 0 1 = some 0 from pu_wi_no (lo := 0) (hi := 1) hv]
    refine ⟨-1, σc, σm, ?_, rfl, h0⟩
    by_cases q : a2 < 0
    · rw [if_pos q]
    · rw [if_neg q, if_neg (fun z => by
        have w := hv.resolve_left q
        rw [Int32.lt_iff_toInt_lt, nI_toInt (by omega)] at w
        rw [Int32.le_iff_toInt_le, show (1 : Int32).toInt = 1 from rfl] at z
        omega)]
  have sb := sm_le (f := W) (B := 12) n (fun d hd => (hW d (by omega)).1)
  rw [show fX10_within (nI y).toInt64 0 1 = some 1 from pu_wi_yes (lo := 0) (hi := 1) y0 y1, Option.bind_some, if_neg pu_10, if_neg (pu_n1l (by omega)), if_pos (pl_le (b := 1) y1), tg_c hst.1 n5 (fun d hd => (hW d (by omega)).2.1), al_m hst.2.1 n5 (fun d hd => (hW d (by omega)).2.2), Option.bind_some, Option.bind_some]
  by_cases hz : sm W n = 0
  · rw [hz]
    exact ⟨-5, σc, σm, rfl, rfl, h0⟩
  rw [if_neg (pl_ne (b := 0) hz), if_neg (pl_ne (b := 0) hz), pu_k]
  unfold fX9_drawn_b71 fX3_begin
  obtain ⟨r, σ1, τ1, q1, q2, q3⟩ := dl_L (n := n) (A := A) (h := k) (c := c) (way := a % 10) (N := a / 10) (y := y) (a := a) (W := W) (σc := σc) (σm := σm) hst hlw n2 n5 hk k1 (k2.trans k1) hA eA eA' hc e3 e4 (fun d hd => hW d (by omega)) (by omega) (by omega) y1 (by omega) ed er (a / 10) 0 ab_N ab_N 0 0 (ab_si σc 35 0 2 a0) (ab_si σm 0 0 26 a0) (by omega) (by rw [pu_N]; omega) (by rw [pu_N]; omega) ⟨mB_si (by decide), hgv, mM_si (by decide), by rw [pu_siE, pu_siE]⟩
  have hR := Rel_fr hh0 q3.1 q3.2.2.1 q3.2.1
  rw [show (if y = 0 then (0 : Int32) else 0) = 0 by split <;> rfl, show nI 0 = (0 : Int32) from rfl] at q1
  rw [show nI 0 = (0 : Int32) from rfl] at q2
  rw [q2]
  rcases (show y = 0 ∨ y = 1 by omega) with rfl | rfl
  · rw [if_pos (show nI 0 = 0 from rfl), pu_k, Option.bind_some]
    exact ⟨r, σ1, τ1, q1, rfl, hR⟩
  · rw [if_neg (show ¬ nI 1 = 0 by decide), pu_k, Option.bind_some]
    exact ⟨r, σ1, τ1, q1, rfl, hR⟩
end
