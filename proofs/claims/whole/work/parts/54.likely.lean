/-! PURE, 23: likely, best, gain, next -/
theorem sm_mul {f : Nat → Nat} {s : Nat} : ∀ n : Nat, sm (fun x => s * f x) n = s * sm f n
  | 0 => by simp [sm]
  | n + 1 => by
    unfold sm
    rw [sm_mul n, Nat.mul_add]
theorem sm_ge {f : Nat → Nat} : ∀ n d : Nat, d < n → f d ≤ sm f n
  | 0, d, h => by omega
  | n + 1, d, h => by
    unfold sm
    by_cases e : d = n
    · subst e; omega
    · have := sm_ge (f := f) n d (by omega); omega
/-- the two sides behind all acts told -/
theorem ev_all {i n b : Nat} {σc σm : ab_S} (h : Rel i σc σm) (n2 : 2 ≤ n) (n5 : n ≤ 5) (hst : R_st n σc σm) (hev : R_ev n σc σm) (hlw : R_lw n σc σm) (hgv : R_gv σc) {t : Nat} (e1 : σc.1 5 0 3 = nI t) (e2 : σm.1 0 0 9 = nI t) (ht : t ≤ 3) :
    ∃ (f : Nat → Nat) (s : Nat) (C M : ab_S), 0 < s ∧ (∀ x, x < n → f x ≤ 12 ^ 13 ∧ s * f x ≤ 12 ^ 13) ∧ (∀ x, x < n → f x ≤ 12 * 12 ^ (4 * t) ∧ s * f x ≤ 12 * 12 ^ (4 * t)) ∧ fX1_weighAll σc = some (lN (sm f n), C) ∧ fX10_comes σm = some (lN (s * sm f n), M) ∧ mI C = mI σc ∧ R_gv C ∧ (∀ x, x < n → C.2 27 0 x = lN (f x)) ∧ (∀ r, r ≠ 27 → C.2 r = σc.2 r) ∧ mJ M = mJ σm ∧ (∀ x, x < n → M.2 12 0 x = lN (s * f x)) ∧ (∀ r, r ≠ 12 → M.2 r = σm.2 r) ∧ Rel (i + 6) C M := by
  obtain ⟨W, hW, -⟩ := st_W hst
  obtain ⟨hA, hAo⟩ := at_x hev n5 e1 ht
  obtain ⟨⟨k, hk, k1⟩, k2⟩ := hst.2.2.2.2.1
  have hEC : EVC n t k W σc := ⟨hst.1, e1, k1, hk, fun d hd => ⟨(hW d (by omega)).1, (hW d (by omega)).2.1⟩, hA⟩
  have hEM : EVM n t k W (σc.1 6 0) (σc.1 7 0) σc σm := ⟨hst.2.1, e2, k2.trans k1, hk, fun d hd => ⟨(hW d (by omega)).1, (hW d (by omega)).2.2⟩, hA, hAo, hlw⟩
  obtain ⟨C, c1, c2, c3, c4, c5⟩ := wa_L n5 hEC (lwok hlw) n 0 ab_N σc (by omega) (by rw [pu_N]; omega) rfl hgv (fun x hx => by omega) (fun _ _ => rfl)
  obtain ⟨M, m1, m2, m3, m4⟩ := cm_L n5 hEM n 0 ab_N σm (by omega) (by rw [pu_N]; omega) rfl (fun x hx => by omega) (fun _ _ => rfl)
  have hTl : ∀ a r c d x, tw σc k a r c d x ≤ 12 := fun a r c d x => twV_le _ _ _ _ _ _ _ _ _
  have b1 : ∀ x, x < n → cw (n - 1) n (tw σc k) W (σc.1 6 0) (σc.1 7 0) x t ≤ 12 ^ 13 := fun x hx => by
    have h1 := cw_le (N := n - 1) (x := x) (W := W) (T := tw σc k) n5 (Nat.le_refl _) hTl hA (hW x (by omega)).1 t (Nat.le_refl _)
    have h2 := pow_bound (N := n - 1) (a := t) (by omega) ht
    omega
  have b2 : ∀ x, x < n → cw 4 n (tw σc k) W (σc.1 6 0) (σc.1 7 0) x t ≤ 12 ^ 13 := fun x hx => by
    have h1 := cw_le (N := 4) (x := x) (W := W) (T := tw σc k) n5 (by omega) hTl hA (hW x (by omega)).1 t (Nat.le_refl _)
    have h2 := pow_bound (N := 4) (a := t) (by omega) ht
    omega
  have b4 : ∀ x, x < n → cw 4 n (tw σc k) W (σc.1 6 0) (σc.1 7 0) x t ≤ 12 * 12 ^ (4 * t) := fun x hx => cw_le (N := 4) (x := x) (W := W) (T := tw σc k) n5 (by omega) hTl hA (hW x (by omega)).1 t (Nat.le_refl _)
  have b3 : ∀ x, x < n → cw (n - 1) n (tw σc k) W (σc.1 6 0) (σc.1 7 0) x t ≤ 12 * 12 ^ (4 * t) := fun x hx => by
    have h1 := cw_le (N := n - 1) (x := x) (W := W) (T := tw σc k) n5 (Nat.le_refl _) hTl hA (hW x (by omega)).1 t (Nat.le_refl _)
    have h2 : 12 ^ ((n - 1) * t) ≤ 12 ^ (4 * t) := Nat.pow_le_pow_right (by omega) (Nat.mul_le_mul_right t (by omega))
    omega
  have sc : ∀ x, cw 4 n (tw σc k) W (σc.1 6 0) (σc.1 7 0) x t = 12 ^ ((5 - n) * t) * cw (n - 1) n (tw σc k) W (σc.1 6 0) (σc.1 7 0) x t := fun x => cw_sc n5 hA t (Nat.le_refl _)
  have sms : sm (fun x => cw 4 n (tw σc k) W (σc.1 6 0) (σc.1 7 0) x t) n = 12 ^ ((5 - n) * t) * sm (fun x => cw (n - 1) n (tw σc k) W (σc.1 6 0) (σc.1 7 0) x t) n := by
    rw [← sm_mul]
    exact sm_congr n (fun x _ => sc x)
  refine ⟨_, 12 ^ ((5 - n) * t), C, M, Nat.pow_pos (by decide), fun x hx => ⟨b1 x hx, by rw [← sc]; exact b2 x hx⟩, fun x hx => ⟨b3 x hx, by rw [← sc]; exact b4 x hx⟩, c1, ?_, c2, c3, c4, c5, m2, fun x hx => by rw [← sc]; exact m3 x hx, m4, ?_⟩
  · rw [← sms]
    exact m1
  · exact Rel_fr h (mB_I c2 (c5 43 (by omega)) (c5 32 (by omega))) (mM_J m2 (m4 22 (by omega))) c3
theorem all_bound {f : Nat → Nat} {n B : Nat} (n5 : n ≤ 5) (h : ∀ x, x < n → f x ≤ B) : sm f n ≤ 5 * B := by
  have h1 := sm_le n h
  have h2 : n * B ≤ 5 * B := Nat.mul_le_mul_right B n5
  omega
def lk (f : Nat → Nat) (s c : Nat) : Nat → Nat
  | 0 => c
  | d + 1 => if s.testBit d = false ∧ f (lk f s c d) < f d then d else lk f s c d
theorem lk_lt {f : Nat → Nat} {s c n : Nat} (hc : c < n) : ∀ d, d ≤ n → lk f s c d < n ∧ (lk f s c d = c ∨ lk f s c d < d) ∧ f c ≤ f (lk f s c d)
  | 0, _ => ⟨hc, Or.inl rfl, Nat.le_refl _⟩
  | d + 1, h => by
    obtain ⟨h1, h2, h3⟩ := lk_lt (f := f) (s := s) hc d (by omega)
    unfold lk
    by_cases q : s.testBit d = false ∧ f (lk f s c d) < f d
    · rw [if_pos q]
      exact ⟨by omega, Or.inr (by omega), by omega⟩
    · rw [if_neg q]
      exact ⟨h1, by omega, h3⟩
theorem lk_c {n s c : Nat} {f : Nat → Nat} {σ : ab_S} (hn : σ.1 1 0 3 = nI n) (n5 : n ≤ 5) (hs : s < 32) (e5 : σ.1 5 0 5 = nI s) (hc : c < n) (hf : ∀ x, x < n → f x < 2 ^ 63 ∧ σ.2 27 0 x = lN (f x)) : ∀ (k j fuel : Nat), j + k = n → k < fuel → fX1_likeliest_b7 fuel (nI (lk f s c j)) (nI j) σ = some (nI (lk f s c n)) := by
  intro k
  induction k with
  | zero =>
    intro j fuel h1 h2
    obtain ⟨fu, rfl⟩ : ∃ f, fuel = f + 1 := ⟨fuel - 1, by omega⟩
    show fX1_likeliest_b7_o _ _ _ _ = _
    unfold fX1_likeliest_b7_o
    rw [hn, if_pos (pu_le (by omega)), show j = n by omega]
  | succ k ih =>
    intro j fuel h1 h2
    obtain ⟨fu, rfl⟩ : ∃ f, fuel = f + 1 := ⟨fuel - 1, by omega⟩
    show fX1_likeliest_b7_o _ _ _ _ = _
    unfold fX1_likeliest_b7_o fX1_likeliest_b42
    obtain ⟨l1, -, -⟩ := lk_lt (f := f) (s := s) hc j (by omega)
    have wd : ∀ d, d < n → fX1_weighed (nI d) σ = some (lN (f d)) := fun d hd => by
      unfold fX1_weighed fX1_weighed_b21
      rw [pu_has_yes hn hd, Option.bind_some, if_neg pu_10, if_pos (inb_nI (by omega)), cl_nI (by omega), (hf d hd).2]
    have st : lk f s c (j + 1) = if s.testBit j = false ∧ f (lk f s c j) < f j then j else lk f s c j := rfl
    have nx := ih (j + 1) fu (by omega) (by omega)
    rw [st] at nx
    rw [hn, if_neg (pu_nle (by omega)), pu_isOpen e5 hs (by omega), Option.bind_some, nI_1]
    cases hb : s.testBit j with
    | true =>
      simp only [pu_10, ↓reduceIte]
      rw [if_neg (fun z => by rw [hb] at z; exact absurd z.1 (by decide))] at nx
      exact nx
    | false =>
      simp only [Bool.false_eq_true, ↓reduceIte]
      rw [wd j (by omega), Option.bind_some, wd _ l1, Option.bind_some]
      by_cases q : f (lk f s c j) < f j
      · rw [if_neg (fun z => by rw [lg_cmp_le, pk_lLE (hf j (by omega)).1 (hf _ l1).1] at z; omega)]
        rw [if_pos ⟨hb, q⟩] at nx
        exact nx
      · rw [if_pos (by rw [lg_cmp_le, pk_lLE (hf j (by omega)).1 (hf _ l1).1]; omega)]
        rw [if_neg (fun z => q z.2)] at nx
        exact nx
theorem lk_m {n s c : Nat} {f : Nat → Nat} {σ : ab_S} (hn : σ.1 0 0 6 = nI n) (n5 : n ≤ 5) (hs : s < 32) (e4 : σ.1 0 0 8 = nI c) (hc : c < n) (hf : ∀ x, x < n → f x < 2 ^ 63 ∧ σ.2 12 0 x = lN (f x)) : ∀ (k j fuel : Nat), j + k = n → k < fuel → fX10_bestCome_b12 fuel (nI s) (nI (lk f s c j)) (nI j) σ = some (nI (lk f s c n)) := by
  intro k
  induction k with
  | zero =>
    intro j fuel h1 h2
    obtain ⟨fu, rfl⟩ : ∃ f, fuel = f + 1 := ⟨fuel - 1, by omega⟩
    show fX10_bestCome_b12_o _ _ _ _ _ = _
    unfold fX10_bestCome_b12_o
    rw [hn, if_pos (pu_le (by omega)), show j = n by omega]
  | succ k ih =>
    intro j fuel h1 h2
    obtain ⟨fu, rfl⟩ : ∃ f, fuel = f + 1 := ⟨fuel - 1, by omega⟩
    show fX10_bestCome_b12_o _ _ _ _ _ = _
    unfold fX10_bestCome_b12_o fX10_bestCome_b73 fX10_bestCome_b77 fX10_bestCome_b78
    obtain ⟨l1, l2, -⟩ := lk_lt (f := f) (s := s) hc j (by omega)
    have st : lk f s c (j + 1) = if s.testBit j = false ∧ f (lk f s c j) < f j then j else lk f s c j := rfl
    have nx := ih (j + 1) fu (by omega) (by omega)
    rw [st] at nx
    rw [hn, if_neg (pu_nle (by omega)), pu_isInM s hs j (by omega), Option.bind_some, nI_1]
    cases hb : s.testBit j with
    | true =>
      simp only [pu_10, ↓reduceIte]
      rw [if_neg (fun z => by rw [hb] at z; exact absurd z.1 (by decide))] at nx
      exact nx
    | false =>
      simp only [Bool.false_eq_true, ↓reduceIte, inb_nI (show j < 5 by omega), inb_nI (show lk f s c j < 5 by omega), cl_nI (d := j) (by omega), cl_nI (d := lk f s c j) (by omega), (hf j (by omega)).2, (hf _ l1).2]
      by_cases q : f (lk f s c j) < f j
      · rw [if_pos (by rw [lg_cmp_gt, pk_lLT (hf _ l1).1 (hf j (by omega)).1]; exact q)]
        rw [if_pos ⟨hb, q⟩] at nx
        exact nx
      · rw [if_neg (fun z => q (by rw [lg_cmp_gt, pk_lLT (hf _ l1).1 (hf j (by omega)).1] at z; exact z))]
        rw [if_neg (fun z => q z.2)] at nx
        by_cases q2 : lg_cmp (lN (f j)) (lN (f (lk f s c j))) = 0
        · rw [if_pos q2, e4]
          by_cases q3 : nI (lk f s c j) = nI c
          · rw [if_pos q3]; exact nx
          · rw [if_neg q3]
            have : lk f s c j < j := by
              rcases l2 with z | z
              · exact absurd (by rw [z]) q3
              · exact z
            rw [if_pos (pu_le (by omega))]
            exact nx
        · rw [if_neg q2]; exact nx
theorem on_x {n t s : Nat} {σc σm M : ab_S} (hev : R_ev n σc σm) (n5 : n ≤ 5) (e1 : σc.1 5 0 3 = nI t) (e2 : σm.1 0 0 9 = nI t) (ht : t ≤ 3) (e7 : fX10_openNow σm = some (nI s)) (m2 : mJ M = mJ σm) : fX10_openNow M = some (nI s) := by
  have q := e7
  have this := q
  unfold fX10_openNow at this ⊢
  rw [mJ_get m2 rfl, e2]
  rw [e2] at this
  obtain ⟨hA, hAo⟩ := at_x hev n5 e1 ht
  have ho : ∀ a, a < t → σm.1 5 0 a = -1 ∨ ∃ d, d < 5 ∧ σm.1 5 0 a = nI d := fun a ha => by
    rw [(hAo a ha).1]
    rcases (hA.2 a ha).2.2 with q | ⟨D, hD, q, -⟩
    · exact Or.inl q
    · exact Or.inr ⟨D, by omega, q⟩
  rw [pu_openBehind ht ho] at this
  rw [pu_openBehind ht (fun a ha => by rw [mJ_get m2 rfl]; exact ho a ha), show M.1 5 0 = σm.1 5 0 from funext fun a => mJ_get m2 rfl]
  exact this
theorem best_x {n t c s S : Nat} {f : Nat → Nat} {σc σm C M : ab_S} (n5 : n ≤ 5) (hst : R_st n σc σm) (hev : R_ev n σc σm) (ht : t ≤ 3) (hc : c < n) (hs : s < 32) (e1 : σc.1 5 0 3 = nI t) (e2 : σm.1 0 0 9 = nI t) (e3 : σc.1 5 0 4 = nI c) (e4 : σm.1 0 0 8 = nI c) (e5 : σc.1 5 0 5 = nI s) (e7 : fX10_openNow σm = some (nI s)) (hS : 0 < S) (hb : ∀ x, x < n → f x ≤ 12 ^ 13 ∧ S * f x ≤ 12 ^ 13) (c2 : mI C = mI σc) (c4 : ∀ x, x < n → C.2 27 0 x = lN (f x)) (m2 : mJ M = mJ σm) (m3 : ∀ x, x < n → M.2 12 0 x = lN (S * f x)) : fX1_likeliest C = some (nI (lk f s c n)) ∧ fX10_bestCome M = some (nI (lk f s c n)) ∧ fX10_openNow M = some (nI s) := by
  have hc1 := lk_c (f := f) (s := s) (c := c) (σ := C) (by rw [mI_get c2 rfl]; exact hst.1) n5 hs (by rw [mI_get c2 rfl]; exact e5) hc (fun x hx => ⟨by have := (hb x hx).1; omega, c4 x hx⟩) n 0 ab_N (by omega) (by rw [pu_N]; omega)
  have hm1 := lk_m (f := fun x => S * f x) (s := s) (c := c) (σ := M) (by rw [mJ_get m2 rfl]; exact hst.2.1) n5 hs (by rw [mJ_get m2 rfl]; exact e4) hc (fun x hx => ⟨by have := (hb x hx).2; show S * f x < 2 ^ 63; omega, m3 x hx⟩) n 0 ab_N (by omega) (by rw [pu_N]; omega)
  have lks : ∀ d, lk (fun x => S * f x) s c d = lk f s c d := by
    intro d
    induction d with
    | zero => rfl
    | succ d ih =>
      unfold lk
      rw [ih]
      have : (S * f (lk f s c d) < S * f d) ↔ (f (lk f s c d) < f d) := Nat.mul_lt_mul_left hS
      simp only [this]
  have onM := on_x hev n5 e1 e2 ht e7 m2
  unfold fX1_likeliest fX10_bestCome
  rw [onM, Option.bind_some, mI_get c2 rfl, mJ_get m2 rfl, e3, e4]
  rw [show lk f s c 0 = c from rfl, show nI 0 = (0 : Int32) from rfl] at hc1
  rw [show lk (fun x => S * f x) s c 0 = c from rfl, show nI 0 = (0 : Int32) from rfl, lks] at hm1
  exact ⟨hc1, hm1, rfl⟩
section
variable {i : Nat} {σc σm : ab_S}
theorem pp_likely (h : Rel i σc σm) (hi : i ≤ 3072) (a0 : Int32) (a1 : Int32) : ∃ (r : Int64) (σc1 : ab_S) (σm1 : ab_S), fX9_likely a0 a1 σc = some (r, σc1) ∧ fX10_likely a0 a1 σm = some (r, σm1) ∧ Rel (i + 6) σc1 σm1 := by
  have hh0 := h
  have h0 := Rel_mono h
  obtain ⟨n, b, n2, n5, hst, hev, him, hch, htp, hlw, hgv, hbs, hbd, hsh⟩ := h
  obtain ⟨t, c, s, ht, hc, hs, e1, e2, e3, e4, e5, e6, e7⟩ := ev_x hev n5
  have dC := hst.1
  have dM := hst.2.1
  unfold fX9_likely fX10_likely fX9_likely_b18 fX9_likely_b59 fX10_likely_b19 fX10_likely_b51
  rcases pu_ix a0 n (by omega) with hx | ⟨d, hd, rfl⟩
  · rw [pu_has_no dC hx, pu_isDoor_no dM hx (by omega)]
    exact ⟨-9223372036854775808, σc, σm, rfl, rfl, h0⟩
  rw [pu_has_yes dC hd, pu_isDoor_yes dM hd, Option.bind_some, Option.bind_some, if_neg pu_10, if_neg pu_10]
  rcases pu_rng a1 0 1 with hv | ⟨p, p0, p1, rfl⟩
  · rw [pu_isPart_no hv, show fX10_within a1.toInt64 0 1 = some 0 from pu_wi_no (lo := 0) (hi := 1) hv]
    exact ⟨-9223372036854775808, σc, σm, rfl, rfl, h0⟩
  rw [pu_isPart_yes p1, show fX10_within (nI p).toInt64 0 1 = some 1 from pu_wi_yes (lo := 0) (hi := 1) p0 p1, Option.bind_some, Option.bind_some, if_neg pu_10, if_neg pu_10]
  obtain ⟨f, S, C, M, hS, hb, -, c1, m1, c2, c3, c4, c5, m2, m3, m4, hR⟩ := ev_all (b := b) hh0 n2 n5 hst hev hlw hgv e1 e2 ht
  have bA := all_bound n5 (fun x hx => (hb x hx).1)
  have bB := all_bound (f := fun x => S * f x) n5 (fun x hx => (hb x hx).2)
  rw [sm_mul] at bB
  rw [c1, m1, Option.bind_some, Option.bind_some]
  dsimp only
  have z1 := pu_l0 (a := sm f n) (by omega)
  have z2 := pu_l0 (a := S * sm f n) (by omega)
  by_cases hz : sm f n = 0
  · rw [if_pos (z1.mpr hz), if_pos (z2.mpr (by rw [hz, Nat.mul_zero]))]
    exact ⟨-2, C, M, rfl, rfl, hR⟩
  · have hz2 : ¬ S * sm f n = 0 := fun z => (Nat.mul_eq_zero.mp z).elim (by omega) hz
    rw [if_neg (fun z => hz (z1.mp z)), if_neg (fun z => hz2 (z2.mp z))]
    have wd : fX1_weighed (nI d) C = some (lN (f d)) := by
      unfold fX1_weighed fX1_weighed_b21
      rw [pu_has_yes (by rw [mI_get c2 rfl]; exact dC) hd, Option.bind_some, if_neg pu_10, if_pos (inb_nI (by omega)), cl_nI (by omega), c4 d hd]
    obtain ⟨b1, b2⟩ := hb d hd
    rw [wd, Option.bind_some, pu_lowest p1 (by omega) (by omega) (by omega), Option.bind_some, if_pos (inb_nI (by omega)), cl_nI (by omega), m3 d hd, pu_partOf p1 (by omega) (by omega) (by omega), Option.bind_some, frac_scale hS]
    exact ⟨_, C, M, rfl, rfl, hR⟩
theorem pp_best (h : Rel i σc σm) (hi : i ≤ 3072) : ∃ (r : Int32) (σc1 : ab_S) (σm1 : ab_S), fX9_best σc = some (r, σc1) ∧ fX10_best σm = some (r, σm1) ∧ Rel (i + 6) σc1 σm1 := by
  have hh0 := h
  have h0 := Rel_mono h
  obtain ⟨n, b, n2, n5, hst, hev, him, hch, htp, hlw, hgv, hbs, hbd, hsh⟩ := h
  obtain ⟨t, c, s, ht, hc, hs, e1, e2, e3, e4, e5, e6, e7⟩ := ev_x hev n5
  unfold fX9_best fX10_best fX9_best_b32 fX10_best_b18
  obtain ⟨f, S, C, M, hS, hb, -, c1, m1, c2, c3, c4, c5, m2, m3, m4, hR⟩ := ev_all (b := b) hh0 n2 n5 hst hev hlw hgv e1 e2 ht
  have bA := all_bound n5 (fun x hx => (hb x hx).1)
  have bB := all_bound (f := fun x => S * f x) n5 (fun x hx => (hb x hx).2)
  rw [sm_mul] at bB
  rw [c1, m1, Option.bind_some, Option.bind_some]
  dsimp only
  have z1 := pu_l0 (a := sm f n) (by omega)
  have z2 := pu_l0 (a := S * sm f n) (by omega)
  by_cases hz : sm f n = 0
  · rw [if_pos (z1.mpr hz), if_pos (z2.mpr (by rw [hz, Nat.mul_zero]))]
    exact ⟨-2, C, M, rfl, rfl, hR⟩
  · have hz2 : ¬ S * sm f n = 0 := fun z => (Nat.mul_eq_zero.mp z).elim (by omega) hz
    rw [if_neg (fun z => hz (z1.mp z)), if_neg (fun z => hz2 (z2.mp z))]
    obtain ⟨hc1, hm1, -⟩ := best_x n5 hst hev ht hc hs e1 e2 e3 e4 e5 e7 hS hb c2 c4 m2 m3
    rw [hc1, hm1]
    exact ⟨_, C, M, rfl, rfl, hR⟩
theorem pp_gain (h : Rel i σc σm) (hi : i ≤ 3072) (a0 : Int32) : ∃ (r : Int64) (σc1 : ab_S) (σm1 : ab_S), fX9_gain a0 σc = some (r, σc1) ∧ fX10_gain a0 σm = some (r, σm1) ∧ Rel (i + 6) σc1 σm1 := by
  have hh0 := h
  have h0 := Rel_mono h
  obtain ⟨n, b, n2, n5, hst, hev, him, hch, htp, hlw, hgv, hbs, hbd, hsh⟩ := h
  obtain ⟨t, c, s, ht, hc, hs, e1, e2, e3, e4, e5, e6, e7⟩ := ev_x hev n5
  unfold fX9_gain fX10_gain fX10_gain_b55
  rcases pu_rng a0 0 1 with hv | ⟨p, p0, p1, rfl⟩
  · rw [pu_isPart_no hv, show fX10_within a0.toInt64 0 1 = some 0 from pu_wi_no (lo := 0) (hi := 1) hv]
    exact ⟨-9223372036854775808, σc, σm, rfl, rfl, h0⟩
  rw [pu_isPart_yes p1, show fX10_within (nI p).toInt64 0 1 = some 1 from pu_wi_yes (lo := 0) (hi := 1) p0 p1, Option.bind_some, Option.bind_some, if_neg pu_10, if_neg pu_10]
  obtain ⟨f, S, C, M, hS, hb, -, c1, m1, c2, c3, c4, c5, m2, m3, m4, hR⟩ := ev_all (b := b) hh0 n2 n5 hst hev hlw hgv e1 e2 ht
  have bA := all_bound n5 (fun x hx => (hb x hx).1)
  have bB := all_bound (f := fun x => S * f x) n5 (fun x hx => (hb x hx).2)
  rw [sm_mul] at bB
  rw [c1, m1, Option.bind_some, Option.bind_some]
  dsimp only
  have z1 := pu_l0 (a := sm f n) (by omega)
  have z2 := pu_l0 (a := S * sm f n) (by omega)
  by_cases hz : sm f n = 0
  · rw [if_pos (z1.mpr hz), if_pos (z2.mpr (by rw [hz, Nat.mul_zero]))]
    exact ⟨-2, C, M, rfl, rfl, hR⟩
  · have hz2 : ¬ S * sm f n = 0 := fun z => (Nat.mul_eq_zero.mp z).elim (by omega) hz
    rw [if_neg (fun z => hz (z1.mp z)), if_neg (fun z => hz2 (z2.mp z))]
    obtain ⟨hc1, hm1, -⟩ := best_x n5 hst hev ht hc hs e1 e2 e3 e4 e5 e7 hS hb c2 c4 m2 m3
    obtain ⟨l1, -, l3⟩ := lk_lt (f := f) (s := s) hc n (Nat.le_refl _)
    have wd : ∀ d, d < n → fX1_weighed (nI d) C = some (lN (f d)) := fun d hd => by
      unfold fX1_weighed fX1_weighed_b21
      rw [pu_has_yes (by rw [mI_get c2 rfl]; exact hst.1) hd, Option.bind_some, if_neg pu_10, if_pos (inb_nI (by omega)), cl_nI (by omega), c4 d hd]
    have bl := hb _ l1
    have l4 : S * f c ≤ S * f (lk f s c n) := Nat.mul_le_mul_left S l3
    rw [hc1, hm1, Option.bind_some, Option.bind_some, mI_get c2 (r := 5) (i := 4) rfl, e3, wd _ l1, wd c hc, Option.bind_some, Option.bind_some, if_pos (inb_nI (by omega)), mJ_get m2 (r := 0) (i := 8) rfl, e4, if_pos (inb_nI (by omega)), cl_nI (d := c) (by omega), cl_nI (d := lk f s c n) (by omega), m3 c hc, m3 _ l1, lN_sub l3, lN_sub l4, ← Nat.mul_sub, pu_lowest p1 (by omega) (by omega) (by omega), pu_partOf p1 (by rw [Nat.mul_sub]; omega) (by omega) (by omega), frac_scale hS]
    exact ⟨_, C, M, rfl, rfl, hR⟩
theorem wact_ok {n : Nat} {σ : ab_S} (hn : σ.1 1 0 3 = nI n) (n1 : 1 ≤ n) (n5 : n ≤ 5) : fX7_wholeAct σ = some (lN (12 ^ (n - 1))) := by
  have L : ∀ (k j fuel : Nat), j + k = n → 1 ≤ j → k < fuel → fX7_wholeAct_b4 fuel (lN (12 ^ (j - 1))) (nI j) σ = some (lN (12 ^ (n - 1))) := by
    intro k
    induction k with
    | zero =>
      intro j fuel h1 h2 h3
      obtain ⟨fu, rfl⟩ : ∃ f, fuel = f + 1 := ⟨fuel - 1, by omega⟩
      show fX7_wholeAct_b4_o _ _ _ _ = _
      unfold fX7_wholeAct_b4_o
      rw [hn, if_pos (pu_le (by omega)), show j = n by omega]
    | succ k ih =>
      intro j fuel h1 h2 h3
      obtain ⟨fu, rfl⟩ : ∃ f, fuel = f + 1 := ⟨fuel - 1, by omega⟩
      show fX7_wholeAct_b4_o _ _ _ _ = _
      unfold fX7_wholeAct_b4_o
      have := ih (j + 1) fu (by omega) (by omega) (by omega)
      rw [show j + 1 - 1 = (j - 1) + 1 by omega, Nat.pow_succ] at this
      rw [hn, if_neg (pu_nle (by omega)), show (12 : Int64) = lN 12 from rfl, lN_mul, nI_1]
      exact this
  exact L (n - 1) 1 ab_N (by omega) (by omega) (by rw [pu_N]; omega)
theorem wn_L {n t h c s : Nat} {f : Nat → Nat} {due : Int32} {σ0 : ab_S} (n5 : n ≤ 5) (hL : LwOK σ0) (hn : σ0.1 1 0 3 = nI n) (hh : h < 4) (eh : σ0.1 1 0 4 = nI h) (ht : t < 3) (e1 : σ0.1 5 0 3 = nI t) (hc : c < n) (e3 : σ0.1 5 0 4 = nI c) (hs : s < 32) (e5 : σ0.1 5 0 5 = nI s) (hd : DU n c s due) (hf : ∀ x, x < n → f x < 2 ^ 63 ∧ σ0.2 27 0 x = lN (f x)) : ∀ (k j fuel : Nat) (σ : ab_S), j + k = n → k < fuel → mT σ = mT σ0 → R_gv σ → ∃ σ', fX1_weighNext_b5 fuel due (lN (sm (fun x => f x * sho (n - 1) n (fun d => tw σ0 h t (pc s) c d x) c s due) j)) (nI j) σ = some (lN (sm (fun x => f x * sho (n - 1) n (fun d => tw σ0 h t (pc s) c d x) c s due) n), σ') ∧ mT σ' = mT σ0 ∧ R_gv σ' := by
  intro k
  induction k with
  | zero =>
    intro j fuel σ h1 h2 hm hg
    obtain ⟨fu, rfl⟩ : ∃ f, fuel = f + 1 := ⟨fuel - 1, by omega⟩
    refine ⟨σ, ?_, hm, hg⟩
    show fX1_weighNext_b5_o _ _ _ _ _ = _
    unfold fX1_weighNext_b5_o
    rw [mT_get hm rfl, hn, if_pos (pu_le (by omega)), show j = n by omega]
  | succ k ih =>
    intro j fuel σ h1 h2 hm hg
    obtain ⟨fu, rfl⟩ : ∃ f, fuel = f + 1 := ⟨fuel - 1, by omega⟩
    show ∃ σ', fX1_weighNext_b5_o (fX1_weighNext_b5 fu) _ _ _ σ = some (_, σ') ∧ _
    unfold fX1_weighNext_b5_o fX1_weighNext_b69
    obtain ⟨f1, f2⟩ := hf j (by omega)
    have st : sm (fun x => f x * sho (n - 1) n (fun d => tw σ0 h t (pc s) c d x) c s due) (j + 1) = sm (fun x => f x * sho (n - 1) n (fun d => tw σ0 h t (pc s) c d x) c s due) j + f j * sho (n - 1) n (fun d => tw σ0 h t (pc s) c d j) c s due := rfl
    have g2 : σ.2 27 0 j = lN (f j) := by rw [T_2 hm]; exact f2
    rw [mT_get hm rfl, hn, if_neg (pu_nle (by omega)), if_pos (inb_nI (by omega)), cl_nI (by omega), g2, nI_1]
    by_cases hz : f j = 0
    · rw [if_pos ((pu_l0 f1).mpr hz)]
      rw [hz, Nat.zero_mul] at st
      have := ih (j + 1) fu σ (by omega) (by omega) hm hg
      rw [st] at this
      exact this
    · rw [if_neg (fun z => hz ((pu_l0 f1).mp z)), if_pos (inb_nI (by omega)), mT_get hm (r := 1) rfl, mT_get hm (r := 5) rfl, mT_get hm (r := 5) rfl, mT_get hm (r := 5) rfl, eh, e1, e5, e3]
      obtain ⟨σ1, q1, q2, q3⟩ := shC_ok (n := n) (h := h) (a := t) (s := s) (x := j) (c := c) hg (lwok_T hm hL) (by rw [mT_get hm rfl]; exact hn) n5 hh (by omega) hs hc (by omega) hd
      rw [tw_T hm] at q1
      rw [q1, Option.bind_some, pu_k, lN_mul, lN_add, ← st]
      exact ih (j + 1) fu σ1 (by omega) (by omega) (q2.trans hm) q3
theorem nx_M {n t h c s p : Nat} {F : Nat → Nat} {all : Int64} {due : Int32} {σc σ0 : ab_S} (n5 : n ≤ 5) (hlw : R_lw n σc σ0) (hn : σ0.1 0 0 6 = nI n) (hh : h < 4) (eh : σ0.1 1 0 5 = nI h) (e1 : σ0.1 0 0 9 = nI t) (hc : c < n) (e3 : σ0.1 0 0 8 = nI c) (hs : s < 32) (e7 : ∀ σ, mG σ = mG σ0 → fX10_openNow σ = some (nI s)) (hd : DU n c s due) (hf : ∀ x, x < n → σ0.2 12 0 x = lN (F x)) : ∀ (k j fuel : Nat) (σ : ab_S), j + k = n → k < fuel → mG σ = mG σ0 → ∃ σ', fX10_next_b44 fuel due (nI p) all (lN (sm (fun x => F x * sho 4 n (fun d => tw σc h t (pc s) c d x) c s due) j)) (lN (sm (fun x => F x * 20736) j)) (nI j) σ = (if lg_cmp all 0 = 0 then some (-2, σ') else (fX10_partOf (lN (sm (fun x => F x * sho 4 n (fun d => tw σc h t (pc s) c d x) c s due) n)) (lN (sm (fun x => F x * 20736) n)) (nI p)).bind fun q => some (q, σ')) ∧ mG σ' = mG σ0 := by
  intro k
  induction k with
  | zero =>
    intro j fuel σ h1 h2 hm
    obtain ⟨fu, rfl⟩ : ∃ f, fuel = f + 1 := ⟨fuel - 1, by omega⟩
    refine ⟨σ, ?_, hm⟩
    show fX10_next_b44_o _ _ _ _ _ _ _ _ = _
    unfold fX10_next_b44_o fX10_next_b133
    rw [mG_get hm rfl, hn, if_pos (pu_le (by omega)), show j = n by omega]
  | succ k ih =>
    intro j fuel σ h1 h2 hm
    obtain ⟨fu, rfl⟩ : ∃ f, fuel = f + 1 := ⟨fuel - 1, by omega⟩
    show ∃ σ', fX10_next_b44_o (fX10_next_b44 fu) _ _ _ _ _ _ σ = _ ∧ _
    unfold fX10_next_b44_o fX10_wholeAct
    have g2 : σ.2 12 0 j = lN (F j) := by rw [G_2 hm]; exact hf j (by omega)
    obtain ⟨σ1, q1, q2⟩ := shM_ok (n := n) (h := h) (a := t) (s := s) (x := j) (c := c) (σc := σc) (σm := σ) (R_lw_fr hlw rfl (mM_G hm)) (by rw [mG_get hm rfl]; exact hn) n5 hh hs hc (by omega) hd
    have g3 : σ1.2 12 0 j = lN (F j) := by rw [G_2 q2]; exact g2
    have st1 : sm (fun x => F x * sho 4 n (fun d => tw σc h t (pc s) c d x) c s due) (j + 1) = sm (fun x => F x * sho 4 n (fun d => tw σc h t (pc s) c d x) c s due) j + F j * sho 4 n (fun d => tw σc h t (pc s) c d j) c s due := rfl
    have st2 : sm (fun x => F x * 20736) (j + 1) = sm (fun x => F x * 20736) j + F j * 20736 := rfl
    rw [mG_get hm (r := 0) (i := 6) rfl, hn, if_neg (pu_nle (by omega)), if_pos (inb_nI (by omega)), if_pos (show ab_inb 5 7 = true from rfl), e7 σ hm, Option.bind_some, show ((5 : Int32)).toNatClampNeg = 5 from rfl, mG_get hm (r := 1) (i := 5) rfl, eh, mG_get hm (r := 0) (i := 8) rfl, e3, mG_get hm (r := 0) (i := 9) rfl, e1, q1, Option.bind_some, pu_k, Option.bind_some, pu_k, cl_nI (by omega)]
    dsimp only
    rw [if_pos (inb_nI (by omega)), g2, g3, show (20736 : Int64) = lN 20736 from rfl, lN_mul, lN_mul, lN_add, lN_add, nI_1, ← st1, ← st2]
    exact ih (j + 1) fu σ1 (by omega) (by omega) (q2.trans hm)
theorem pp_next (h : Rel i σc σm) (hi : i ≤ 3072) (a0 : Int32) (a1 : Int32) : ∃ (r : Int64) (σc1 : ab_S) (σm1 : ab_S), fX9_next a0 a1 σc = some (r, σc1) ∧ fX10_next a0 a1 σm = some (r, σm1) ∧ Rel (i + 6) σc1 σm1 := by
  have hh0 := h
  have h0 := Rel_mono h
  obtain ⟨n, b, n2, n5, hst, hev, him, hch, htp, hlw, hgv, hbs, hbd, hsh⟩ := h
  obtain ⟨t, c, s, ht, hc, hs, e1, e2, e3, e4, e5, e6, e7⟩ := ev_x hev n5
  unfold fX9_next fX10_next fX9_next_b26 fX10_next_b26
  rcases mayOpen_x hst (by omega) n5 hs hc e3 e4 e5 e7 a0 with ⟨q1, q2⟩ | ⟨q1, q2, hx⟩
  · rw [q1, q2]
    refine ⟨-9223372036854775808, σc, σm, ?_, rfl, h0⟩
    rcases pu_rng a1 0 1 with hv | ⟨p, p0, p1, rfl⟩
    · rw [pu_isPart_no hv]; rfl
    · rw [pu_isPart_yes p1]; rfl
  rw [q1, q2, Option.bind_some, if_neg pu_10]
  rcases pu_rng a1 0 1 with hv | ⟨p, p0, p1, rfl⟩
  · rw [pu_isPart_no hv, show fX10_within a1.toInt64 0 1 = some 0 from pu_wi_no (lo := 0) (hi := 1) hv]
    exact ⟨-9223372036854775808, σc, σm, rfl, rfl, h0⟩
  rw [pu_isPart_yes p1, show fX10_within (nI p).toInt64 0 1 = some 1 from pu_wi_yes (lo := 0) (hi := 1) p0 p1, Option.bind_some, Option.bind_some, if_neg pu_10, if_neg pu_10, Option.bind_some, if_neg pu_10, e1, e2]
  by_cases ht3 : t = 3
  · subst ht3
    exact ⟨-9223372036854775808, σc, σm, rfl, rfl, h0⟩
  rw [if_pos (pl_lt (b := 3) (by omega)), if_neg (pl_ne (b := 3) (by omega))]
  have hd : DU n c s a0 := by
    rcases hx with q | ⟨d, d1, d2, d3, d4⟩
    · exact Or.inl q
    · exact Or.inr ⟨d, d1, d2, by rw [el_isIn d3, d4]; rfl⟩
  obtain ⟨f, S, C, M, hS, hb, hb2, c1, m1, c2, c3, c4, c5, m2, m3, m4, hR⟩ := ev_all (b := b) hh0 n2 n5 hst hev hlw hgv e1 e2 ht
  obtain ⟨⟨k, hk, k1⟩, k2⟩ := hst.2.2.2.2.1
  obtain ⟨-, -, onM⟩ := best_x n5 hst hev ht hc hs e1 e2 e3 e4 e5 e7 hS hb c2 c4 m2 m3
  have bA := all_bound n5 (fun x hx => (hb x hx).1)
  have bB := all_bound (f := fun x => S * f x) n5 (fun x hx => (hb x hx).2)
  rw [sm_mul] at bB
  have hTl : ∀ d x, tw σc k t (pc s) c d x ≤ 12 := fun d x => twV_le _ _ _ _ _ _ _ _ _
  have pb : 12 * 12 ^ (4 * t) * 12 ^ 4 ≤ 12 ^ 13 := by
    have : t = 0 ∨ t = 1 ∨ t = 2 := by omega
    rcases this with rfl | rfl | rfl <;> decide
  have one : ∀ x, x < n → S * f x * 12 ^ 4 ≤ 12 ^ 13 := fun x hx => Nat.le_trans (Nat.mul_le_mul_right _ (hb2 x hx).2) pb
  have one' : ∀ x, x < n → f x * 12 ^ 4 ≤ 12 ^ 13 := fun x hx => Nat.le_trans (Nat.mul_le_mul_right _ (hb2 x hx).1) pb
  have p4 : 12 ^ (n - 1) ≤ 12 ^ 4 := Nat.pow_le_pow_right (by omega) (by omega)
  have sh4 : ∀ x, sho 4 n (fun d => tw σc k t (pc s) c d x) c s a0 ≤ 12 ^ 4 := fun x => sho_le hc n5 (by omega) (fun d => hTl d x) hd
  have shn : ∀ x, sho (n - 1) n (fun d => tw σc k t (pc s) c d x) c s a0 ≤ 12 ^ (n - 1) := fun x => sho_le hc n5 (Nat.le_refl _) (fun d => hTl d x) hd
  have w1 := all_bound n5 (f := fun x => f x * sho (n - 1) n (fun d => tw σc k t (pc s) c d x) c s a0) (B := 12 ^ 13) (fun x hx => Nat.le_trans (Nat.mul_le_mul_left _ (Nat.le_trans (shn x) p4)) (one' x hx))
  have w2 := all_bound n5 (f := fun x => S * f x * sho 4 n (fun d => tw σc k t (pc s) c d x) c s a0) (B := 12 ^ 13) (fun x hx => Nat.le_trans (Nat.mul_le_mul_left _ (sh4 x)) (one x hx))
  have w3 := all_bound n5 (f := fun x => S * f x * 20736) (B := 12 ^ 13) (fun x hx => one x hx)
  have w4 := all_bound n5 (f := fun x => 12 ^ (n - 1) * f x) (B := 12 ^ 13) (fun x hx => by
    rw [Nat.mul_comm]
    exact Nat.le_trans (Nat.mul_le_mul_left _ p4) (one' x hx))
  rw [sm_mul] at w4
  have s1 : sm (fun x => S * f x * sho 4 n (fun d => tw σc k t (pc s) c d x) c s a0) n = S * 12 ^ (5 - n) * sm (fun x => f x * sho (n - 1) n (fun d => tw σc k t (pc s) c d x) c s a0) n := by
    rw [← sm_mul]
    exact sm_congr n (fun x _ => by rw [sho_sc hc n5 hd, Nat.mul_mul_mul_comm])
  have s2 : sm (fun x => S * f x * 20736) n = S * 12 ^ (5 - n) * (sm f n * 12 ^ (n - 1)) := by
    have e : (20736 : Nat) = 12 ^ (5 - n) * 12 ^ (n - 1) := by rw [← Nat.pow_add, show 5 - n + (n - 1) = 4 by omega]
    rw [Nat.mul_comm (sm f n), ← Nat.mul_assoc, ← sm_mul]
    refine sm_congr n (fun x _ => ?_)
    rw [e, Nat.mul_assoc S (12 ^ (5 - n)), Nat.mul_right_comm]
  rw [c1, m1, Option.bind_some, Option.bind_some]
  dsimp only
  have z1 := pu_l0 (a := sm f n) (by omega)
  have z2 := pu_l0 (a := S * sm f n) (by omega)
  obtain ⟨M1, n1, n3⟩ := nx_M (n := n) (t := t) (h := k) (c := c) (s := s) (p := p) (F := fun x => S * f x) (all := lN (S * sm f n)) (due := a0) (σc := σc) (σ0 := M) n5 (R_lw_fr hlw rfl (mM_J m2 (m4 22 (by omega)))) (by rw [mJ_get m2 rfl]; exact hst.2.1) hk (by rw [mJ_get m2 rfl]; exact k2.trans k1) (by rw [mJ_get m2 rfl]; exact e2) hc (by rw [mJ_get m2 rfl]; exact e4) hs (fun σ hσ => by
    exact on_x hev n5 e1 e2 ht e7 ((mJ_G hσ).trans m2)) hd m3 n 0 ab_N M (by omega) (by rw [pu_N]; omega) rfl
  have mBC : mB C = mB σc := mB_I c2 (c5 43 (by omega)) (c5 32 (by omega))
  have mMM : mM M1 = mM σm := (mM_G n3).trans (mM_J m2 (m4 22 (by omega)))
  have hRM : Rel (i + 6) C M1 := Rel_fr hh0 mBC mMM c3
  rw [show lN (sm (fun x => S * f x * sho 4 n (fun d => tw σc k t (pc s) c d x) c s a0) 0) = (0 : Int64) from rfl, show lN (sm (fun x => S * f x * 20736) 0) = (0 : Int64) from rfl, show nI 0 = (0 : Int32) from rfl] at n1
  rw [n1]
  by_cases hz : sm f n = 0
  · rw [if_pos (z1.mpr hz), if_pos (z2.mpr (by rw [hz, Nat.mul_zero]))]
    exact ⟨-2, C, M1, rfl, rfl, hRM⟩
  · have hz2 : ¬ S * sm f n = 0 := fun z => (Nat.mul_eq_zero.mp z).elim (by omega) hz
    rw [if_neg (fun z => hz (z1.mp z)), if_neg (fun z => hz2 (z2.mp z))]
    obtain ⟨C1, d1, d2, d3⟩ := wn_L (n := n) (t := t) (h := k) (c := c) (s := s) (f := f) (due := a0) (σ0 := C) n5 (lwok_I c2 (lwok hlw)) (by rw [mI_get c2 rfl]; exact hst.1) hk (by rw [mI_get c2 rfl]; exact k1) (by omega) (by rw [mI_get c2 rfl]; exact e1) hc (by rw [mI_get c2 rfl]; exact e3) hs (by rw [mI_get c2 rfl]; exact e5) hd (fun x hx => ⟨by have := (hb x hx).1; omega, c4 x hx⟩) n 0 ab_N C (by omega) (by rw [pu_N]; omega) rfl c3
    rw [tw_I c2] at d1
    have d1' : fX1_weighNext a0 C = _ := d1
    have hsf : 0 < sm f n * 12 ^ (n - 1) := Nat.mul_pos (by omega) (Nat.pow_pos (by decide))
    have hSp : 0 < S * 12 ^ (5 - n) := Nat.mul_pos hS (Nat.pow_pos (by decide))
    rw [d1', Option.bind_some, wact_ok (by rw [mT_get d2 rfl, mI_get c2 rfl]; exact hst.1) (by omega) n5, Option.bind_some, lN_mul]
    dsimp only
    rw [pu_lowest p1 (by omega) (by rw [Nat.mul_comm]; omega) hsf, pu_partOf p1 (by omega) (by omega) (by rw [s2]; exact Nat.mul_pos hSp hsf), frac_scale2 hSp s1 s2]
    exact ⟨_, C1, M1, rfl, rfl, Rel_fr hh0 ((mB_T d2).trans mBC) mMM d3⟩
end
