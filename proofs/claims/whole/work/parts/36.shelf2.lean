/-! PURE, 6: put, element, shift, taken -/
theorem pl_neI {A : Int32} {x : Int32} (h : x.toInt ≠ A.toInt) : ¬ x = A := fun e => h (by rw [e])
/-- why there is no element -/
theorem ref_x {b : Nat} {σc σm : ab_S} (hb : b ≤ 50) (hsh : R_sh b σc σm) (a0 a1 : Int32) :
    (∃ r : Int32, r ≠ 0 ∧ fX9_rowRefusal a0 a1 σc = some r ∧ fX10_refusal a0 a1 σm = some r) ∨
    (∃ d s m k, d < 6 ∧ s ≤ 4 ∧ m ≤ 60 ∧ k < m ∧ a0 = nI d ∧ a1 = nI k ∧ fX9_rowRefusal a0 a1 σc = some 0 ∧ fX10_refusal a0 a1 σm = some 0 ∧ σc.1 40 0 d = nI s ∧ σm.1 20 0 d = nI (50 + s) ∧ σc.1 41 0 d = nI m ∧ σm.1 21 0 d = nI m ∧ ∀ j, j < 60 → σm.2 22 0 (60 * d + j) = σc.2 43 d j ∧ (s = 0 → ∃ y : Int32, σc.2 43 d j = y.toInt64)) := by
  unfold fX9_rowRefusal fX10_refusal fX9_rowRefusal_b60 fX10_refusal_b53 fX10_refusal_b55
  rcases pu_ix a0 6 (by omega) with hx | ⟨d, hd, rfl⟩
  · exact Or.inl ⟨-1, by decide, by rw [pu_hasS_no hx]; rfl, by rw [pu_isShelf_no hx]; rfl⟩
  · rw [pu_hasS_yes hd, pu_isShelf_yes hd]
    simp only [Option.bind_some, pu_10, ↓reduceIte, inb_nI hd, cl_nI (d := d) (by omega)]
    rcases hsh d hd with ⟨q1, q2⟩ | ⟨k, hk, q1, q2, q3⟩ | ⟨s, m, hs, hm, q1, q2, q3, q4, q5⟩
    · refine Or.inl ⟨-11, by decide, ?_, ?_⟩
      · rw [sh_isEmpty_yes hd q1]; rfl
      · rw [q2]; rfl
    · refine Or.inl ⟨-12, by decide, ?_, ?_⟩
      · rw [sh_isEmpty_no hd (by rw [q1]; decide), sh_isRow_no hd (Or.inr q1)]; rfl
      · rw [q3, if_pos (pr_le (b := 0) (by omega)), if_neg (pr_nle (b := 50) (by omega))]
    · rw [sh_isEmpty_no hd (by rw [q1]; exact pu_n1), sh_isRow_yes hd q1 hs, q2, q4]
      simp only [Option.bind_some, pu_10, ↓reduceIte]
      rw [sh_pl (sh_len hd q1 hs q3) hm, if_pos (pr_le (b := 0) (by omega)), if_pos (pr_le (b := 50) (by omega)), show (1 : Int32).toInt = 1 from rfl]
      rcases pk_ix a1 (show m < 2 ^ 31 by omega) with hx | hx | ⟨k, hk, rfl⟩
      · refine Or.inl ⟨-13, by decide, ?_, ?_⟩
        · rw [if_neg (fun q => by rw [Int32.lt_iff_toInt_lt, Int32.toInt_zero] at hx; omega)]; rfl
        · rw [if_pos hx]
      · refine Or.inl ⟨-13, by decide, ?_, ?_⟩
        · rw [if_neg (fun q => by rw [Int32.le_iff_toInt_le, nI_toInt (by omega)] at hx; omega)]; rfl
        · rw [if_pos hx]
          by_cases h1 : a1 < 0
          · rw [if_pos h1]
          · rw [if_neg h1]
      · refine Or.inr ⟨d, s, m, k, hd, hs, hm, hk, rfl, rfl, ?_, ?_, q1, q2, q3, q4, q5⟩
        · rw [nI_toInt (by omega), if_pos (by omega)]; rfl
        · rw [if_neg pu_n1l, if_neg (pu_nle hk)]
theorem pu_60 {d k : Nat} : (60 : Int32) * nI d + nI k = nI (60 * d + k) := by
  rw [show (60 : Int32) = nI 60 from rfl, pk_mul, nI_add]
section
variable {i : Nat} {σc σm : ab_S}
theorem pp_element (h : Rel i σc σm) (hi : i ≤ 3072) (a0 : Int32) (a1 : Int32) : ∃ (r : Int64), fX9_element a0 a1 σc = some r ∧ fX10_element a0 a1 σm = some r ∧ Rel (i + 6) σc σm := by
  have h0 := Rel_mono h
  obtain ⟨n, b, n2, n5, hst, hev, him, hch, htp, hlw, hgv, hbs, hbd, hsh⟩ := h
  unfold fX9_element fX10_element fX9_element_b24 fX10_element_b26
  rcases ref_x hbd.1 hsh a0 a1 with ⟨r, hr, q1, q2⟩ | ⟨d, s, m, k, hd, hs, hm, hk, rfl, rfl, q1, q2, w1, w2, w3, w4, w5⟩
  · rw [q1, q2, Option.bind_some, Option.bind_some, if_neg hr, if_neg hr]
    exact ⟨_, rfl, rfl, h0⟩
  · rw [q1, q2, Option.bind_some, Option.bind_some, if_pos (show (0 : Int32) = 0 from rfl), if_pos (show (0 : Int32) = 0 from rfl), sh_at hd w1 hs w3 hm hk, Option.bind_some, pu_60, if_pos (inb_nI (by omega)), cl_nI (by omega), (w5 k (by omega)).1]
    exact ⟨_, rfl, rfl, h0⟩
theorem pp_put (h : Rel i σc σm) (hi : i ≤ 3072) (a0 : Int32) (a1 : Int32) (a2 : Int64) : ∃ (r : Int32) (σc1 : ab_S) (σm1 : ab_S), fX9_put a0 a1 a2 σc = some (r, σc1) ∧ fX10_put a0 a1 a2 σm = some (r, σm1) ∧ Rel (i + 6) σc1 σm1 := by
  have h0 := Rel_mono h
  obtain ⟨n, b, n2, n5, hst, hev, him, hch, htp, hlw, hgv, hbs, hbd, hsh⟩ := h
  unfold fX9_put fX10_put fX10_put_b37 fX10_put_b48
  rcases ref_x hbd.1 hsh a0 a1 with ⟨r, hr, q1, q2⟩ | ⟨d, s, m, k, hd, hs, hm, hk, rfl, rfl, q1, q2, w1, w2, w3, w4, w5⟩
  · rw [q1, q2]
    simp only [Option.bind_some, hr, ↓reduceIte]
    exact ⟨_, _, _, rfl, rfl, h0⟩
  · obtain ⟨w, v1, v2, v3⟩ := as_x a2 s hs
    have e50 : nI (50 + s) - 50 = nI s := by
      have := pk_sub (a := 50 + s) (b := 50) (by omega)
      rw [show nI 50 = (50 : Int32) from rfl] at this
      rw [this]
      congr 1
      omega
    rw [q1, q2]
    unfold fX6_set fX6_set_b36
    rw [sh_isRow_yes hd w1 hs, sh_pl (sh_len hd w1 hs w3) hm, if_pos (by rw [nI_toInt (by omega), show (1 : Int32).toInt = 1 from rfl]; omega)]
    simp only [Option.bind_some, pu_10, ↓reduceIte, inb_nI hd, cl_nI (d := d) (by omega), cl_nI (d := k) (by omega), w1, w2, e50, v1, v2, pu_60, inb_nI (show k < 60 by omega), inb_nI (show 60 * d + k < 360 by omega), cl_nI (d := 60 * d + k) (by omega), pu_k]
    refine ⟨1, _, _, rfl, rfl, n, b, n2, n5, hst, hev, R_im_mono him, hch, htp, hlw, hgv, R_bs_mono hbs, hbd, fun j hj => ?_⟩
    rcases hsh j hj with z | z | ⟨s', m', z1, z2, z3, z4, z5, z6, z7⟩
    · exact Or.inl z
    · exact Or.inr (Or.inl z)
    · refine Or.inr (Or.inr ⟨s', m', z1, z2, z3, z4, z5, z6, fun e he => ?_⟩)
      show (ab_sl σm 22 0 (60 * d + k) w).2 22 0 (60 * j + e) = (ab_sl σc 43 d k w).2 43 j e ∧ (s' = 0 → ∃ y : Int32, (ab_sl σc 43 d k w).2 43 j e = y.toInt64)
      by_cases hje : j = d ∧ e = k
      · obtain ⟨rfl, rfl⟩ := hje
        rw [pu_slE, pu_slE]
        refine ⟨rfl, fun h => v3 ?_⟩
        rw [w1] at z3
        have := (nI_eq (a := s) (b := s') (by omega) (by omega)).mp z3
        omega
      · rw [pu_slJ (by omega), show (ab_sl σc 43 d k w).2 43 j e = σc.2 43 j e from if_neg (fun z => hje ⟨z.2.1, z.2.2⟩)]
        exact z7 e he
theorem sf_car {v1 v2 v3 v4 : Int32} {d a n : Nat} (h1 : v1 = nI d) (h2 : v2 = nI a) (hd : d < 6) (ha : a + n ≤ 60) : ∀ (k j fuel : Nat) (σ : ab_S), j + k = n → k < fuel → ∃ σ', fX10_shift_b113 fuel v1 v2 v3 v4 (nI n) (nI j) σ = fX10_shift_b150 ab_N v3 v4 (nI n) 0 σ' ∧ σ'.1 = σ.1 ∧ σ'.2 22 = σ.2 22 ∧ (∀ e, e < j → σ'.2 23 0 e = σ.2 23 0 e) ∧ (∀ e, j ≤ e → e < n → σ'.2 23 0 e = σ.2 22 0 (60 * d + a + e)) := by
  subst h1 h2
  intro k
  induction k with
  | zero =>
    intro j fuel σ h1 h2
    obtain ⟨f, rfl⟩ : ∃ f, fuel = f + 1 := ⟨fuel - 1, by omega⟩
    refine ⟨σ, ?_, rfl, rfl, fun e _ => rfl, fun e h3 h4 => by omega⟩
    show fX10_shift_b113_o _ _ _ _ _ _ _ _ = _
    unfold fX10_shift_b113_o
    rw [if_pos (pu_le (by omega))]
  | succ k ih =>
    intro j fuel σ h1 h2
    obtain ⟨f, rfl⟩ : ∃ f, fuel = f + 1 := ⟨fuel - 1, by omega⟩
    obtain ⟨σ', q1, q2, q3, q4, q5⟩ := ih (j + 1) f (ab_sl σ 23 0 j (σ.2 22 0 (60 * d + a + j))) (by omega) (by omega)
    refine ⟨σ', ?_, q2, q3, fun e h => ?_, fun e h3 h4 => ?_⟩
    · show fX10_shift_b113_o _ _ _ _ _ _ _ _ = _
      unfold fX10_shift_b113_o
      rw [if_neg (pu_nle (by omega)), pu_60, nI_add, if_pos (inb_nI (by omega)), if_pos (inb_nI (by omega)), cl_nI (by omega), cl_nI (by omega), pu_k, nI_1]
      exact q1
    · rw [q4 e (by omega)]
      exact pu_slJ (by omega)
    · by_cases hej : e = j
      · subst hej
        rw [q4 e (by omega)]
        exact pu_slE
      · exact q5 e (by omega) h4
theorem sf_put {v3 v4 : Int32} {d a n : Nat} (h1 : v3 = nI d) (h2 : v4 = nI a) (hd : d < 6) (ha : a + n ≤ 60) : ∀ (k j fuel : Nat) (σ : ab_S), j + k = n → k < fuel → ∃ σ', fX10_shift_b150 fuel v3 v4 (nI n) (nI j) σ = some (nI n, σ') ∧ σ'.1 = σ.1 ∧ σ'.2 23 = σ.2 23 ∧ (∀ e, e < 60 * d + a + j ∨ 60 * d + a + n ≤ e → σ'.2 22 0 e = σ.2 22 0 e) ∧ (∀ e, j ≤ e → e < n → σ'.2 22 0 (60 * d + a + e) = σ.2 23 0 e) := by
  subst h1 h2
  intro k
  induction k with
  | zero =>
    intro j fuel σ h1 h2
    obtain ⟨f, rfl⟩ : ∃ f, fuel = f + 1 := ⟨fuel - 1, by omega⟩
    refine ⟨σ, ?_, rfl, rfl, fun e _ => rfl, fun e h3 h4 => by omega⟩
    show fX10_shift_b150_o _ _ _ _ _ _ = _
    unfold fX10_shift_b150_o
    rw [if_pos (pu_le (by omega))]
  | succ k ih =>
    intro j fuel σ h1 h2
    obtain ⟨f, rfl⟩ : ∃ f, fuel = f + 1 := ⟨fuel - 1, by omega⟩
    obtain ⟨σ', q1, q2, q3, q4, q5⟩ := ih (j + 1) f (ab_sl σ 22 0 (60 * d + a + j) (σ.2 23 0 j)) (by omega) (by omega)
    refine ⟨σ', ?_, q2, q3, fun e h => ?_, fun e h3 h4 => ?_⟩
    · show fX10_shift_b150_o _ _ _ _ _ _ = _
      unfold fX10_shift_b150_o
      rw [if_neg (pu_nle (by omega)), pu_60, nI_add, if_pos (inb_nI (by omega)), if_pos (inb_nI (by omega)), cl_nI (by omega), cl_nI (by omega), pu_k, nI_1]
      exact q1
    · rw [q4 e (by omega)]
      exact pu_slJ (by omega)
    · by_cases hej : e = j
      · subst hej
        rw [q4 _ (by omega)]
        exact pu_slE
      · exact q5 e (by omega) h4
theorem pp_shift (h : Rel i σc σm) (hi : i ≤ 3072) (a0 : Int32) (a1 : Int32) (a2 : Int32) (a3 : Int32) (a4 : Int32) : ∃ (r : Int32) (σc1 : ab_S) (σm1 : ab_S), fX9_shift a0 a1 a2 a3 a4 σc = some (r, σc1) ∧ fX10_shift a0 a1 a2 a3 a4 σm = some (r, σm1) ∧ Rel (i + 6) σc1 σm1 := by
  have h0 := Rel_mono h
  obtain ⟨n, b, n2, n5, hst, hev, him, hch, htp, hlw, hgv, hbs, hbd, hsh⟩ := h
  have b50 := hbd.1
  unfold fX9_shift fX10_shift fX9_shift_b22 fX9_shift_b46 fX9_shift_b72 fX9_shift_b104 fX10_shift_b14 fX10_shift_b34 fX10_shift_b63 fX10_shift_b107
  rcases pu_ix a0 6 (by omega) with hx | ⟨d, hd, rfl⟩
  · rw [pu_hasS_no hx, pu_isShelf_no hx]
    exact ⟨-1, σc, σm, rfl, rfl, h0⟩
  rcases pu_ix a2 6 (by omega) with hx | ⟨e, he, rfl⟩
  · rw [pu_hasS_yes hd, pu_isShelf_yes hd, pu_hasS_no hx, pu_isShelf_no hx]
    exact ⟨-1, σc, σm, rfl, rfl, h0⟩
  rw [pu_hasS_yes hd, pu_isShelf_yes hd, pu_hasS_yes he, pu_isShelf_yes he]
  simp only [Option.bind_some, pu_10, ↓reduceIte, inb_nI hd, inb_nI he, cl_nI (d := d) (by omega), cl_nI (d := e) (by omega)]
  rcases hsh d hd with ⟨q1, q2⟩ | ⟨k, hk, q1, q2, q3⟩ | ⟨s, m, hs, hm, q1, q2, q3, q4, q5⟩
  · rw [sh_isEmpty_yes hd q1, q2]
    exact ⟨-11, σc, σm, rfl, rfl, h0⟩
  · rw [sh_isEmpty_no hd (by rw [q1]; decide), q3, if_neg pu_n1l, sh_isRow_no hd (Or.inr q1)]
    simp only [Option.bind_some, pu_10, ↓reduceIte]
    rcases hsh e he with ⟨p1, p2⟩ | ⟨k', hk', p1, p2, p3⟩ | ⟨s', m', hs', hm', p1, p2, p3, p4, p5⟩
    · rw [sh_isEmpty_yes he p1, p2]
      exact ⟨-11, σc, σm, rfl, rfl, h0⟩
    · rw [sh_isEmpty_no he (by rw [p1]; decide), p3, if_pos (pr_le (b := 0) (by omega)), if_pos (pl_lt (b := 50) (by omega))]
      exact ⟨-12, σc, σm, rfl, rfl, h0⟩
    · rw [sh_isEmpty_no he (by rw [p1]; exact pu_n1), p2, if_pos (pr_le (b := 0) (by omega)), if_pos (pl_lt (b := 50) (by omega))]
      exact ⟨-12, σc, σm, rfl, rfl, h0⟩
  · rw [sh_isEmpty_no hd (by rw [q1]; exact pu_n1), q2, if_neg pu_n1l, sh_isRow_yes hd q1 hs]
    simp only [Option.bind_some, pu_10, ↓reduceIte]
    unfold fX6_areAlike fX6_areAlike_b35 fX6_areAlike_b36
    rw [pu_hasS_yes hd, pu_hasS_yes he]
    simp only [Option.bind_some, pu_10, ↓reduceIte, inb_nI hd, inb_nI he, cl_nI (d := d) (by omega), cl_nI (d := e) (by omega), isb0, isb1, q1, q4]
    rw [if_neg (pl_nlt (b := 50) (by omega))]
    rcases hsh e he with ⟨p1, p2⟩ | ⟨k', hk', p1, p2, p3⟩ | ⟨s', m', hs', hm', p1, p2, p3, p4, p5⟩
    · rw [sh_isEmpty_yes he p1, p2]
      exact ⟨-11, σc, σm, rfl, rfl, h0⟩
    · rw [sh_isEmpty_no he (by rw [p1]; decide), p1, p3, if_pos (pr_le (b := 0) (by omega)), if_neg (pu_ne (by omega)), if_neg (fun z => by
        have := nI_toInt (n := s) (by omega)
        rw [z, show (-2 : Int32).toInt = -2 from rfl] at this
        omega)]
      exact ⟨-12, σc, σm, rfl, rfl, h0⟩
    · rw [sh_isEmpty_no he (by rw [p1]; exact pu_n1), p1, p2, if_pos (pr_le (b := 0) (by omega)), sh_pl (sh_len hd q1 hs q3) hm, sh_pl (sh_len he p1 hs' p3) hm', p4]
      by_cases hss : s = s'
      · subst hss
        simp only [Option.bind_some, pu_10, ↓reduceIte]
        by_cases n4 : a4 < 0
        · rw [if_pos n4, if_neg (show ¬(0 ≤ a1.toInt ∧ 0 ≤ a4.toInt ∧ a1.toInt + a4.toInt ≤ m) from fun z => by rw [Int32.lt_iff_toInt_lt, Int32.toInt_zero] at n4; omega)]
          exact ⟨-13, σc, σm, rfl, rfl, h0⟩
        by_cases n1 : a1 < 0
        · rw [if_neg n4, if_pos n1, if_neg (show ¬(0 ≤ a1.toInt ∧ 0 ≤ a4.toInt ∧ a1.toInt + a4.toInt ≤ m) from fun z => by rw [Int32.lt_iff_toInt_lt, Int32.toInt_zero] at n1; omega)]
          exact ⟨-13, σc, σm, rfl, rfl, h0⟩
        rw [if_neg n4, if_neg n1]
        obtain ⟨c4, hc4, rfl⟩ := nI_of n4
        obtain ⟨c1, hc1, rfl⟩ := nI_of n1
        by_cases n3 : a3 < 0
        · rw [if_pos n3, if_neg (show ¬(0 ≤ a3.toInt ∧ 0 ≤ (nI c4).toInt ∧ a3.toInt + (nI c4).toInt ≤ m') from fun z => by rw [Int32.lt_iff_toInt_lt, Int32.toInt_zero] at n3; omega)]
          refine ⟨-13, σc, σm, ?_, rfl, h0⟩
          by_cases z : (0 ≤ (nI c1).toInt ∧ 0 ≤ (nI c4).toInt ∧ (nI c1).toInt + (nI c4).toInt ≤ m)
          · rw [if_pos z]; rfl
          · rw [if_neg z]; rfl
        rw [if_neg n3]
        obtain ⟨c3, hc3, rfl⟩ := nI_of n3
        rw [nI_toInt hc1, nI_toInt hc3, nI_toInt hc4]
        have sub : ∀ (M C : Nat), M ≤ 60 → C < 2 ^ 31 → (nI M - nI C).toInt = (M : Int) - C := fun M C h1 h2 => by
          rw [Int32.toInt_sub, nI_toInt (by omega), nI_toInt (by omega)]
          exact Int.bmod_eq_of_le (by omega) (by omega)
        by_cases g1 : c1 + c4 ≤ m
        · rw [if_neg (show ¬ nI m - nI c4 < nI c1 from fun z => by rw [Int32.lt_iff_toInt_lt, sub m c4 hm hc4, nI_toInt hc1] at z; omega), if_pos (show 0 ≤ (c1 : Int) ∧ 0 ≤ (c4 : Int) ∧ (c1 : Int) + c4 ≤ m by omega)]
          by_cases g2 : c3 + c4 ≤ m'
          · rw [if_pos (show nI c3 ≤ nI m' - nI c4 by rw [Int32.le_iff_toInt_le, sub m' c4 hm' hc4, nI_toInt hc3]; omega), if_pos (show 0 ≤ (c3 : Int) ∧ 0 ≤ (c4 : Int) ∧ (c3 : Int) + c4 ≤ m' by omega)]
            simp only [Option.bind_some, pu_10, ↓reduceIte]
            obtain ⟨σ1, y1, y2, y3, -, y4⟩ := sf_car (v1 := nI d) (v2 := nI c1) (v3 := nI e) (v4 := nI c3) (n := c4) rfl rfl hd (by omega) c4 0 ab_N σm (by omega) (by rw [pu_N]; omega)
            obtain ⟨σ2, x1, x2, -, x3, x4⟩ := sf_put (v3 := nI e) (v4 := nI c3) (n := c4) rfl rfl he (by omega) c4 0 ab_N σ1 (by omega) (by rw [pu_N]; omega)
            unfold fX6_move fX6_move_b16 fX6_move_b40
            rw [sh_isRow_yes hd q1 hs, sh_isRow_yes he p1 hs', sh_pl (sh_len hd q1 hs q3) hm, sh_pl (sh_len he p1 hs' p3) hm', nI_toInt hc1, nI_toInt hc3, nI_toInt hc4, if_pos (show 0 ≤ (c1 : Int) ∧ 0 ≤ (c4 : Int) ∧ (c1 : Int) + c4 ≤ m by omega), if_pos (show 0 ≤ (c3 : Int) ∧ 0 ≤ (c4 : Int) ∧ (c3 : Int) + c4 ≤ m' by omega)]
            have cpb : ab_cpb (nI c1) (nI c3) (nI c4) 60 60 = true := by
              unfold ab_cpb
              rw [decide_eq_true_eq, cl_nI hc1, cl_nI hc3, cl_nI hc4]
              exact ⟨pu_n1l hc1, pu_n1l hc3, pu_n1l hc4, by omega, by omega⟩
            simp only [Option.bind_some, pu_10, ↓reduceIte, inb_nI hd, inb_nI he, cl_nI (d := d) (by omega), cl_nI (d := e) (by omega), cpb, cl_nI hc1, cl_nI hc3, cl_nI hc4, pu_k]
            rw [show (0 : Int32) = nI 0 from rfl, y1, show (0 : Int32) = nI 0 from rfl, x1]
            obtain ⟨s21, s22⟩ := σ2
            obtain ⟨s11, s12⟩ := σ1
            dsimp only at x2 y2
            subst y2 x2
            refine ⟨nI c4, _, _, rfl, rfl, n, b, n2, n5, hst, hev, R_im_mono him, hch, htp, hlw, hgv, R_bs_mono hbs, hbd, fun j hj => ?_⟩
            rcases hsh j hj with z | z | ⟨s', m'', z1, z2, z3, z4, z5, z6, z7⟩
            · exact Or.inl z
            · exact Or.inr (Or.inl z)
            · refine Or.inr (Or.inr ⟨s', m'', z1, z2, z3, z4, z5, z6, fun f hf => ?_⟩)
              show s22 22 0 (60 * j + f) = (ab_cl σc 43 d c1 43 e c3 c4).2 43 j f ∧ (s' = 0 → ∃ y : Int32, (ab_cl σc 43 d c1 43 e c3 c4).2 43 j f = y.toInt64)
              by_cases hje : j = e ∧ c3 ≤ f ∧ f < c3 + c4
              · obtain ⟨rfl, g3, g4⟩ := hje
                have r1 : (ab_cl σc 43 d c1 43 j c3 c4).2 43 j f = σc.2 43 d (c1 + (f - c3)) := if_pos ⟨rfl, rfl, g3, g4⟩
                have r2 : s22 22 0 (60 * j + f) = σm.2 22 0 (60 * d + (c1 + (f - c3))) := by
                  have := x4 (f - c3) (by omega) (by omega)
                  dsimp only at this
                  rw [show 60 * j + c3 + (f - c3) = 60 * j + f by omega] at this
                  rw [this]
                  have := y4 (f - c3) (by omega) (by omega)
                  dsimp only at this
                  rw [this, Nat.add_assoc]
                rw [r1, r2]
                obtain ⟨o1, o2⟩ := q5 (c1 + (f - c3)) (by omega)
                refine ⟨o1, fun h => o2 ?_⟩
                rw [p1] at z3
                have := (nI_eq (a := s) (b := s') (by omega) (by omega)).mp z3
                omega
              · have r1 : (ab_cl σc 43 d c1 43 e c3 c4).2 43 j f = σc.2 43 j f := if_neg (fun z => hje ⟨z.2.1, z.2.2⟩)
                have r2 : s22 22 0 (60 * j + f) = σm.2 22 0 (60 * j + f) := by
                  exact (x3 (60 * j + f) (by omega)).trans (congrFun (congrFun y3 0) _)
                rw [r1, r2]
                exact z7 f hf
          · rw [if_neg (show ¬ nI c3 ≤ nI m' - nI c4 from fun z => by rw [Int32.le_iff_toInt_le, sub m' c4 hm' hc4, nI_toInt hc3] at z; omega), if_neg (show ¬ (0 ≤ (c3 : Int) ∧ 0 ≤ (c4 : Int) ∧ (c3 : Int) + c4 ≤ m') by omega)]
            exact ⟨-13, σc, σm, rfl, rfl, h0⟩
        · rw [if_pos (show nI m - nI c4 < nI c1 by rw [Int32.lt_iff_toInt_lt, sub m c4 hm hc4, nI_toInt hc1]; omega), if_neg (show ¬ (0 ≤ (c1 : Int) ∧ 0 ≤ (c4 : Int) ∧ (c1 : Int) + c4 ≤ m) by omega)]
          exact ⟨-13, σc, σm, rfl, rfl, h0⟩
      · rw [if_neg (pu_ne (show 50 + s ≠ 50 + s' by omega)), if_neg (pu_ne hss)]
        exact ⟨-12, σc, σm, rfl, rfl, h0⟩
end
