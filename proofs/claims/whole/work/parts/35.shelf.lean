/-! PURE, 5: shelves -/
theorem pu_wib_no {x : Int32} {t : Nat} (h : x < 0 ∨ nI t ≤ x) (ht : t < 2 ^ 30) : fX10_within x.toInt64 0 (nI t - 1).toInt64 = some 0 := by
  rw [within_eq, bI_f (fun q => by
    obtain ⟨q1, q2⟩ := q
    have e : (nI t - 1).toInt = (t : Int) - 1 := pk_sub_toInt (a := t) (b := 1) (by omega) (by omega)
    rw [Int64.le_iff_toInt_le, Int32.toInt_toInt64, Int64.toInt_zero] at q1
    rw [Int64.le_iff_toInt_le, Int32.toInt_toInt64, Int32.toInt_toInt64, e] at q2
    have := pu_ixI h
    omega)]
theorem pu_wib_yes {k t : Nat} (h : k < t) (ht : t < 2 ^ 30) : fX10_within (nI k).toInt64 0 (nI t - 1).toInt64 = some 1 := by
  have ep : nI t - 1 = nI (t - 1) := by rw [show t = t - 1 + 1 by omega, nI_pred]; rfl
  rw [ep, nI_l (n := t - 1) (by omega)]
  exact pu_wi_yes (lo := 0) (by omega) (by omega)
section
variable {σ : ab_S} {d s m : Nat}
theorem sh_isRow_yes (hd : d < 6) (e : σ.1 40 0 d = nI s) (hs : s ≤ 4) : fX6_isRow (nI d) σ = some 1 := by
  unfold fX6_isRow fX6_isRow_b25
  rw [pu_hasS_yes hd, Option.bind_some, if_neg pu_10, if_pos (inb_nI hd), cl_nI, e, pu_isSort_yes hs]
  rfl
theorem sh_isRow_no (hd : d < 6) (e : σ.1 40 0 d = -1 ∨ σ.1 40 0 d = -2) : fX6_isRow (nI d) σ = some 0 := by
  unfold fX6_isRow
  rw [pu_hasS_yes hd, Option.bind_some, if_neg pu_10, if_pos (inb_nI hd), cl_nI]
  rcases e with e | e <;> (rw [e]; rfl)
theorem sh_isEmpty_yes (hd : d < 6) (e : σ.1 40 0 d = -1) : fX6_isEmpty (nI d) σ = some 1 := by
  unfold fX6_isEmpty
  rw [pu_hasS_yes hd, Option.bind_some, if_neg pu_10, if_pos (inb_nI hd), cl_nI, e]
  rfl
theorem sh_isEmpty_no (hd : d < 6) (e : σ.1 40 0 d ≠ -1) : fX6_isEmpty (nI d) σ = some 0 := by
  unfold fX6_isEmpty
  rw [pu_hasS_yes hd, Option.bind_some, if_neg pu_10, if_pos (inb_nI hd), cl_nI, if_neg e]
  rfl
theorem sh_isBytes_yes (hd : d < 6) (e : σ.1 40 0 d = 0) : fX6_isBytes (nI d) σ = some 1 := by
  unfold fX6_isBytes
  rw [pu_hasS_yes hd, Option.bind_some, if_neg pu_10, if_pos (inb_nI hd), cl_nI, e]
  rfl
theorem sh_isBytes_no (hd : d < 6) (e : σ.1 40 0 d ≠ 0) : fX6_isBytes (nI d) σ = some 0 := by
  unfold fX6_isBytes
  rw [pu_hasS_yes hd, Option.bind_some, if_neg pu_10, if_pos (inb_nI hd), cl_nI, if_neg e]
  rfl
theorem sh_len (hd : d < 6) (e : σ.1 40 0 d = nI s) (hs : s ≤ 4) (e1 : σ.1 41 0 d = nI m) : fX6_lengthOf (nI d) σ = some (nI m) := by
  unfold fX6_lengthOf fX6_lengthOf_b18
  rw [sh_isRow_yes hd e hs, Option.bind_some, if_neg pu_10, if_pos (inb_nI hd), cl_nI, e1]
theorem sh_pl (hl : fX6_lengthOf (nI d) σ = some (nI m)) (hm : m ≤ 60) (x y : Int32) : fX6_hasPlaces (nI d) x y σ = some (if 0 ≤ x.toInt ∧ 0 ≤ y.toInt ∧ x.toInt + y.toInt ≤ m then 1 else 0) := by
  unfold fX6_hasPlaces fX6_hasPlaces_b32 fX6_hasPlaces_b33
  by_cases h1 : x < 0
  · rw [if_pos h1, if_neg (show ¬ (0 ≤ x.toInt ∧ 0 ≤ y.toInt ∧ x.toInt + y.toInt ≤ (m : Int)) from fun q => by rw [Int32.lt_iff_toInt_lt, Int32.toInt_zero] at h1; omega)]; rfl
  · rw [if_neg h1]
    by_cases h2 : y < 0
    · rw [if_pos h2, if_neg (show ¬ (0 ≤ x.toInt ∧ 0 ≤ y.toInt ∧ x.toInt + y.toInt ≤ (m : Int)) from fun q => by rw [Int32.lt_iff_toInt_lt, Int32.toInt_zero] at h2; omega)]; rfl
    · rw [if_neg h2, hl, Option.bind_some]
      obtain ⟨a, ha, rfl⟩ := nI_of h1
      obtain ⟨b, hb, rfl⟩ := nI_of h2
      rw [nI_toInt ha, nI_toInt hb]
      by_cases h3 : nI m < nI a
      · rw [if_pos h3, if_neg (show ¬ (0 ≤ (a : Int) ∧ 0 ≤ (b : Int) ∧ (a : Int) + (b : Int) ≤ (m : Int)) from fun q => by rw [Int32.lt_iff_toInt_lt, nI_toInt (by omega), nI_toInt ha] at h3; omega)]; rfl
      · rw [if_neg h3, Option.bind_some]
        have h3' : a ≤ m := by rw [Int32.lt_iff_toInt_lt, nI_toInt (by omega), nI_toInt ha] at h3; omega
        rw [pk_sub h3']
        by_cases h4 : nI (m - a) < nI b
        · rw [if_pos h4, if_neg (show ¬ (0 ≤ (a : Int) ∧ 0 ≤ (b : Int) ∧ (a : Int) + (b : Int) ≤ (m : Int)) from fun q => by rw [Int32.lt_iff_toInt_lt, nI_toInt (by omega), nI_toInt hb] at h4; omega)]; rfl
        · rw [if_neg h4, if_pos (show 0 ≤ (a : Int) ∧ 0 ≤ (b : Int) ∧ (a : Int) + (b : Int) ≤ (m : Int) by rw [Int32.lt_iff_toInt_lt, nI_toInt (by omega), nI_toInt hb] at h4; omega)]; rfl
theorem sh_at (hd : d < 6) (e : σ.1 40 0 d = nI s) (hs : s ≤ 4) (e1 : σ.1 41 0 d = nI m) (hm : m ≤ 60) {k : Nat} (hk : k < m) : fX6_at (nI d) (nI k) σ = some (σ.2 43 d k) := by
  unfold fX6_at fX6_at_b30
  rw [sh_isRow_yes hd e hs, Option.bind_some, if_neg pu_10, sh_pl (sh_len hd e hs e1) hm, if_pos (by rw [nI_toInt (by omega), show (1 : Int32).toInt = 1 from rfl]; omega), Option.bind_some, if_neg pu_10, if_pos (inb_nI hd), if_pos (inb_nI (by omega)), cl_nI, cl_nI]
end
theorem sh_fillL (c : Nat) (v : Int64) : ∀ (k j fuel : Nat) (σ : ab_S), j + k = 60 → k < fuel → ∃ σ', fJ7_fill_d0a16_b6 fuel c v (nI j) (Int32.ofNat 60) σ = some σ' ∧ σ'.1 = σ.1 ∧ (∀ a b e, ¬ (a = 43 ∧ b = c) → σ'.2 a b e = σ.2 a b e) ∧ (∀ e, e < j → σ'.2 43 c e = σ.2 43 c e) ∧ (∀ e, j ≤ e → e < 60 → σ'.2 43 c e = v) := by
  intro k
  induction k with
  | zero =>
    intro j fuel σ h1 h2
    obtain ⟨f, rfl⟩ : ∃ f, fuel = f + 1 := ⟨fuel - 1, by omega⟩
    refine ⟨σ, ?_, rfl, fun a b e _ => rfl, fun e _ => rfl, fun e h3 h4 => by omega⟩
    show fJ7_fill_d0a16_b6_o _ _ _ _ _ _ = _
    unfold fJ7_fill_d0a16_b6_o
    rw [if_pos (show Int32.ofNat 60 ≤ nI j from pu_le (a := 60) (by omega))]
  | succ k ih =>
    intro j fuel σ h1 h2
    obtain ⟨f, rfl⟩ : ∃ f, fuel = f + 1 := ⟨fuel - 1, by omega⟩
    obtain ⟨σ', q1, q2, q3, q4, q5⟩ := ih (j + 1) f (ab_sl σ 43 c j v) (by omega) (by omega)
    refine ⟨σ', ?_, q2, fun a b e h => ?_, fun e h => ?_, fun e h3 h4 => ?_⟩
    · show fJ7_fill_d0a16_b6_o _ _ _ _ _ _ = _
      unfold fJ7_fill_d0a16_b6_o
      rw [if_neg (show ¬ Int32.ofNat 60 ≤ nI j from pu_nle (a := 60) (by omega)), if_pos (inb_nI (by omega)), cl_nI, pu_k, nI_1]
      exact q1
    · rw [q3 a b e h]
      exact if_neg (fun z => h ⟨z.1, z.2.1⟩)
    · rw [q4 e (by omega)]
      exact pu_slJ (by omega)
    · by_cases hej : e = j
      · subst hej
        rw [q4 e (by omega)]
        exact pu_slE
      · exact q5 e (by omega) h4
theorem sh_rowL (d : Nat) (hd : d < 6) : ∀ (k j fuel : Nat) (σ : ab_S), j + k = 60 → k < fuel → ∃ σ', fX10_row_b57 fuel (nI d) (nI (60 * d + j)) σ = some (1, σ') ∧ σ'.1 = σ.1 ∧ (∀ e, e < 60 * d + j ∨ 60 * d + 60 ≤ e → σ'.2 22 0 e = σ.2 22 0 e) ∧ (∀ e, 60 * d + j ≤ e → e < 60 * d + 60 → σ'.2 22 0 e = 0) := by
  have e60 : (60 : Int32) * nI d + 60 = nI (60 * d + 60) := by
    rw [show (60 : Int32) = nI 60 from rfl, pk_mul, nI_add]
  intro k
  induction k with
  | zero =>
    intro j fuel σ h1 h2
    obtain ⟨f, rfl⟩ : ∃ f, fuel = f + 1 := ⟨fuel - 1, by omega⟩
    refine ⟨σ, ?_, rfl, fun e _ => rfl, fun e h3 h4 => by omega⟩
    show fX10_row_b57_o _ _ _ _ = _
    unfold fX10_row_b57_o
    rw [e60, if_pos (pu_le (by omega))]
  | succ k ih =>
    intro j fuel σ h1 h2
    obtain ⟨f, rfl⟩ : ∃ f, fuel = f + 1 := ⟨fuel - 1, by omega⟩
    obtain ⟨σ', q1, q2, q3, q5⟩ := ih (j + 1) f (ab_sl σ 22 0 (60 * d + j) 0) (by omega) (by omega)
    refine ⟨σ', ?_, q2, fun e h => ?_, fun e h3 h4 => ?_⟩
    · show fX10_row_b57_o _ _ _ _ = _
      unfold fX10_row_b57_o
      rw [e60, if_neg (pu_nle (by omega)), if_pos (inb_nI (by omega)), cl_nI, pu_k, nI_1]
      exact q1
    · rw [q3 e (by omega)]
      exact pu_slJ (by omega)
    · by_cases hej : e = 60 * d + j
      · subst hej
        rw [q3 _ (by omega)]
        exact pu_slE
      · exact q5 e (by omega) h4
theorem as_x (v : Int64) (s : Nat) (hs : s ≤ 4) : ∃ w, fX6_lowestBits (nI s) v = some w ∧ fX10_asSort (nI s) v = some w ∧ (s = 0 → ∃ y : Int32, w = y.toInt64) := by
  rcases (show s = 0 ∨ s = 1 ∨ s = 2 ∨ s = 3 ∨ s = 4 by omega) with rfl | rfl | rfl | rfl | rfl
  · exact ⟨_, rfl, rfl, fun _ => ⟨_, rfl⟩⟩
  · exact ⟨_, rfl, rfl, fun h => by omega⟩
  · exact ⟨_, rfl, rfl, fun h => by omega⟩
  · exact ⟨_, rfl, rfl, fun h => by omega⟩
  · by_cases h : lg_cmp v 0 = 0
    · refine ⟨0, ?_, ?_, fun h => by omega⟩
      · unfold fX6_lowestBits; simp only [h]; rfl
      · unfold fX10_asSort; simp only [h]; rfl
    · refine ⟨1, ?_, ?_, fun h => by omega⟩
      · unfold fX6_lowestBits; simp only [h]; rfl
      · unfold fX10_asSort; simp only [h]; rfl
section
variable {i : Nat} {σc σm : ab_S}
theorem pp_keep (h : Rel i σc σm) (hi : i ≤ 3072) (a0 : Int32) (a1 : Int32) : ∃ (r : Int32) (σc1 : ab_S) (σm1 : ab_S), fX9_keep a0 a1 σc = some (r, σc1) ∧ fX10_keep a0 a1 σm = some (r, σm1) ∧ Rel (i + 6) σc1 σm1 := by
  have h0 := Rel_mono h
  obtain ⟨n, b, n2, n5, hst, hev, him, hch, htp, hlw, hgv, hbs, hbd, hsh⟩ := h
  obtain ⟨b50, k1, k2, kk, k3, k4⟩ := id hbd
  unfold fX9_keep fX10_keep
  rcases pu_ix a0 6 (by omega) with hx | ⟨d, hd, rfl⟩
  · refine ⟨-1, σc, σm, ?_, ?_, h0⟩
    · rw [pu_hasS_no hx]; rfl
    · rw [pu_isShelf_no hx]; rfl
  · rw [pu_hasS_yes hd, pu_isShelf_yes hd, Option.bind_some, Option.bind_some, if_neg pu_10, if_neg pu_10]
    unfold fX9_keep_b31 fX9_keep_b56 fX10_keep_b22
    by_cases hm1 : a1 = -1
    · subst hm1
      rw [if_pos rfl, if_pos rfl, if_pos rfl]
      unfold fX6_holdNothing fX6_holdNothing_b15
      rw [pu_hasS_yes hd, Option.bind_some, if_neg pu_10]
      simp only [pu_k, inb_nI hd, cl_nI (d := d) (by omega), ↓reduceIte, Option.bind_some]
      refine ⟨1, _, _, rfl, rfl, n, b, n2, n5, hst, hev, R_im_mono him, hch, htp, hlw, hgv, R_bs_mono hbs, hbd, fun j hj => ?_⟩
      show ((ab_si σc 40 0 d (-1)).1 40 0 j = -1 ∧ (ab_si σm 20 0 d (-1)).1 20 0 j = -1) ∨ (∃ k, k < b ∧ (ab_si σc 40 0 d (-1)).1 40 0 j = -2 ∧ σc.1 41 0 j = nI k ∧ (ab_si σm 20 0 d (-1)).1 20 0 j = nI k) ∨ (∃ s m, s ≤ 4 ∧ m ≤ 60 ∧ (ab_si σc 40 0 d (-1)).1 40 0 j = nI s ∧ (ab_si σm 20 0 d (-1)).1 20 0 j = nI (50 + s) ∧ σc.1 41 0 j = nI m ∧ (ab_si σm 21 0 d 0).1 21 0 j = nI m ∧ ∀ e, e < 60 → σm.2 22 0 (60 * j + e) = σc.2 43 j e ∧ (s = 0 → ∃ y : Int32, σc.2 43 j e = y.toInt64))
      by_cases hjd : j = d
      · subst hjd
        rw [pu_siE, pu_siE]
        exact Or.inl ⟨rfl, rfl⟩
      · rw [pu_siJ hjd, pu_siJ hjd, pu_siJ hjd]
        exact hsh j hj
    · rw [if_neg hm1, if_neg hm1, if_neg hm1]
      unfold fX10_isBody fX0_has fX0_has_b22 fX0_has_b23
      rw [k1, k2]
      rcases pk_ix a1 (show b < 2 ^ 31 by omega) with hx | hx | ⟨e, he, rfl⟩
      · rw [if_pos hx, pu_wib_no (Or.inl hx) (by omega)]
        exact ⟨-1, σc, σm, rfl, rfl, h0⟩
      · rw [pu_wib_no (Or.inr hx) (by omega)]
        by_cases h1 : a1 < 0
        · rw [if_pos h1]
          exact ⟨-1, σc, σm, rfl, rfl, h0⟩
        · rw [if_neg h1, if_pos hx]
          exact ⟨-1, σc, σm, rfl, rfl, h0⟩
      · rw [if_neg pu_n1l, if_neg (pu_nle he), if_neg (pr_nle (b := 50) (by omega)), pu_wib_yes he (by omega)]
        unfold fX6_holdBody
        rw [pu_hasS_yes hd]
        simp only [pu_k, isb1, pu_10, inb_nI hd, cl_nI (d := d) (by omega), ↓reduceIte, Option.bind_some]
        refine ⟨1, _, _, rfl, rfl, n, b, n2, n5, hst, hev, R_im_mono him, hch, htp, hlw, hgv, R_bs_mono hbs, hbd, fun j hj => ?_⟩
        show ((ab_si σc 40 0 d (-2)).1 40 0 j = -1 ∧ (ab_si σm 20 0 d (nI e)).1 20 0 j = -1) ∨ (∃ k, k < b ∧ (ab_si σc 40 0 d (-2)).1 40 0 j = -2 ∧ (ab_si σc 41 0 d (nI e)).1 41 0 j = nI k ∧ (ab_si σm 20 0 d (nI e)).1 20 0 j = nI k) ∨ (∃ s m, s ≤ 4 ∧ m ≤ 60 ∧ (ab_si σc 40 0 d (-2)).1 40 0 j = nI s ∧ (ab_si σm 20 0 d (nI e)).1 20 0 j = nI (50 + s) ∧ (ab_si σc 41 0 d (nI e)).1 41 0 j = nI m ∧ (ab_si σm 21 0 d 0).1 21 0 j = nI m ∧ ∀ e, e < 60 → σm.2 22 0 (60 * j + e) = σc.2 43 j e ∧ (s = 0 → ∃ y : Int32, σc.2 43 j e = y.toInt64))
        by_cases hjd : j = d
        · subst hjd
          rw [pu_siE, pu_siE, pu_siE]
          exact Or.inr (Or.inl ⟨e, he, rfl, rfl, rfl⟩)
        · rw [pu_siJ hjd, pu_siJ hjd, pu_siJ hjd, pu_siJ hjd]
          exact hsh j hj
theorem pp_row (h : Rel i σc σm) (hi : i ≤ 3072) (a0 : Int32) (a1 : Int32) (a2 : Int32) : ∃ (r : Int32) (σc1 : ab_S) (σm1 : ab_S), fX9_row a0 a1 a2 σc = some (r, σc1) ∧ fX10_row a0 a1 a2 σm = some (r, σm1) ∧ Rel (i + 6) σc1 σm1 := by
  have h0 := Rel_mono h
  obtain ⟨n, b, n2, n5, hst, hev, him, hch, htp, hlw, hgv, hbs, hbd, hsh⟩ := h
  unfold fX9_row fX10_row
  rcases pu_ix a0 6 (by omega) with hx | ⟨d, hd, rfl⟩
  · refine ⟨-1, σc, σm, ?_, ?_, h0⟩
    · rw [pu_hasS_no hx]; rfl
    · rw [pu_isShelf_no hx]; rfl
  · rw [pu_hasS_yes hd, pu_isShelf_yes hd, Option.bind_some, Option.bind_some, if_neg pu_10, if_neg pu_10]
    rcases pu_rng a1 0 4 with hv | ⟨s, s0, s4, rfl⟩
    · refine ⟨-1, σc, σm, ?_, ?_, h0⟩
      · rw [pu_isSort_no hv]; rfl
      · rw [show fX10_within a1.toInt64 0 4 = some 0 from pu_wi_no (lo := 0) (hi := 4) hv]; rfl
    · rw [pu_isSort_yes s4, show fX10_within (nI s).toInt64 0 4 = some 1 from pu_wi_yes (lo := 0) (hi := 4) s0 s4, Option.bind_some, Option.bind_some, if_neg pu_10, if_neg pu_10]
      by_cases h60 : a2 ≤ 60
      · rw [if_pos h60, if_pos h60]
        by_cases hneg : 0 ≤ a2
        · rw [if_pos hneg, if_pos hneg]
          obtain ⟨m, hm, rfl⟩ := nI_of (x := a2) (fun q => by rw [Int32.lt_iff_toInt_lt] at q; rw [Int32.le_iff_toInt_le] at hneg; omega)
          have hm60 : m ≤ 60 := by
            rw [Int32.le_iff_toInt_le, nI_toInt hm, show (60 : Int32).toInt = 60 from rfl] at h60
            omega
          unfold fX6_holdRow fX6_holdRow_b25
          rw [pu_hasS_yes hd, Option.bind_some, if_neg pu_10, pu_isSort_yes s4, Option.bind_some, if_neg pu_10, if_neg pu_n1l, if_pos h60]
          simp only [pu_k, inb_nI hd, cl_nI (d := d) (by omega), ↓reduceIte]
          obtain ⟨σ1, q1, q2, q3, q4, q5⟩ := sh_fillL d 0 60 0 ab_N (ab_si (ab_si σc 40 0 d (nI s)) 41 0 d (nI m)) (by omega) (by decide)
          obtain ⟨σ2, z1, z2, z3, z4⟩ := sh_rowL d hd 60 0 ab_N (ab_si (ab_si σm 20 0 d (50 + nI s)) 21 0 d (nI m)) (by omega) (by decide)
          have e60 : (60 : Int32) * nI d = nI (60 * d + 0) := by
            rw [show (60 : Int32) = nI 60 from rfl, pk_mul, Nat.add_zero]
          have e50 : (50 : Int32) + nI s = nI (50 + s) := by rw [show (50 : Int32) = nI 50 from rfl, nI_add]
          unfold fJ7_fill_d0a16
          rw [show (0 : Int32) = nI 0 from rfl, q1, Option.bind_some, Option.bind_some, e60, z1]
          have cC : ∀ (r k j : Nat), σ1.1 r k j = (ab_si (ab_si σc 40 0 d (nI s)) 41 0 d (nI m)).1 r k j := fun r k j => by rw [q2]
          have e1C : mC (σ1.1, σc.2) = mC (ab_si (ab_si σc 40 0 d (nI s)) 41 0 d (nI m)) := by rw [q2]; rfl
          obtain ⟨s11, s12⟩ := σ1
          obtain ⟨s21, s22⟩ := σ2
          dsimp only at q2 z2
          subst q2 z2
          refine ⟨1, _, _, rfl, rfl, n, b, n2, n5, hst, hev, R_im_mono him, hch, htp, hlw, hgv, ?_, hbd, fun j hj => ?_⟩
          · obtain ⟨g, g0, g1, g2, g3⟩ := hbs
            refine ⟨g, g0, by omega, g2, fun h hh => ?_⟩
            obtain ⟨g', w1, w2, w3⟩ := g3 h hh
            refine ⟨g', w1, w2, fun e => ?_⟩
            have := w3 e
            show BestV n (σc.1 1 0 5) (σc.1 2 0) (tw σc h) (s12 32 0 h) (σc.1 33 0 h)
            rw [show s12 32 0 h = σc.2 32 0 h from q3 32 0 h (by omega)]
            exact this
          · show ((ab_si σc 40 0 d (nI s)).1 40 0 j = -1 ∧ (ab_si σm 20 0 d (50 + nI s)).1 20 0 j = -1) ∨ (∃ k, k < b ∧ (ab_si σc 40 0 d (nI s)).1 40 0 j = -2 ∧ (ab_si σc 41 0 d (nI m)).1 41 0 j = nI k ∧ (ab_si σm 20 0 d (50 + nI s)).1 20 0 j = nI k) ∨ (∃ s' m', s' ≤ 4 ∧ m' ≤ 60 ∧ (ab_si σc 40 0 d (nI s)).1 40 0 j = nI s' ∧ (ab_si σm 20 0 d (50 + nI s)).1 20 0 j = nI (50 + s') ∧ (ab_si σc 41 0 d (nI m)).1 41 0 j = nI m' ∧ (ab_si σm 21 0 d (nI m)).1 21 0 j = nI m' ∧ ∀ e, e < 60 → s22 22 0 (60 * j + e) = s12 43 j e ∧ (s' = 0 → ∃ y : Int32, s12 43 j e = y.toInt64))
            by_cases hjd : j = d
            · subst hjd
              rw [pu_siE, pu_siE, pu_siE, pu_siE, e50]
              refine Or.inr (Or.inr ⟨s, m, s4, hm60, rfl, rfl, rfl, rfl, fun e he => ?_⟩)
              have y1 : s12 43 j e = 0 := q5 e (by omega) he
              have y2 : s22 22 0 (60 * j + e) = 0 := z4 (60 * j + e) (by omega) (by omega)
              rw [y1, y2]
              exact ⟨rfl, fun _ => ⟨0, rfl⟩⟩
            · rw [pu_siJ hjd, pu_siJ hjd, pu_siJ hjd, pu_siJ hjd]
              rcases hsh j hj with w | w | ⟨s', m', w1, w2, w3, w4, w5, w6, w7⟩
              · exact Or.inl w
              · exact Or.inr (Or.inl w)
              · refine Or.inr (Or.inr ⟨s', m', w1, w2, w3, w4, w5, w6, fun e he => ?_⟩)
                have y1 : s12 43 j e = σc.2 43 j e := q3 43 j e (fun z => hjd z.2)
                have y2 : s22 22 0 (60 * j + e) = σm.2 22 0 (60 * j + e) := z3 (60 * j + e) (by omega)
                rw [y1, y2]
                exact w7 e he
        · rw [if_neg hneg, if_neg hneg]
          exact ⟨-14, σc, σm, rfl, rfl, h0⟩
      · rw [if_neg h60, if_neg h60]
        exact ⟨-1, σc, σm, rfl, rfl, h0⟩
end
