/-! PURE, 4: code, led, win, of, count, feed, body, trace -/
theorem isN_nI {k : Nat} {x : Int32} (h : isN k x) (hk : k < 2 ^ 31 := by omega) : x = nI x.toNatClampNeg ∧ x.toNatClampNeg < k := by
  obtain ⟨j, hj, rfl⟩ := h
  rw [cl_nI]
  exact ⟨rfl, hj⟩
theorem pu_saidOf {σ : ab_S} {n d : Nat} (hn : σ.1 1 0 3 = nI n) (h : d < n) (h5 : n ≤ 5) : fX7_saidOf (nI d) σ = some (σ.1 3 0 d) := by
  unfold fX7_saidOf fX7_saidOf_b18
  rw [pu_has_yes hn h, Option.bind_some, if_neg pu_10, if_pos (inb_nI (by omega)), cl_nI]
theorem pu_told0 {σ : ab_S} {n d : Nat} (hn : σ.1 1 0 3 = nI n) (h : d < n) (h5 : n ≤ 5) : fX7_told (nI d) 0 σ = some (σ.1 2 0 d) := by
  unfold fX7_told fX7_told_b38
  rw [if_neg (by decide), if_neg (by decide), pu_has_yes hn h, Option.bind_some, if_neg pu_10, if_pos (inb_nI (by omega)), cl_nI]
section
variable {i : Nat} {σc σm : ab_S}
theorem pp_code (h : Rel i σc σm) (hi : i ≤ 3072) (a0 : Int32) (a1 : Int32) : ∃ (r : Int32) (σc1 : ab_S) (σm1 : ab_S), fX9_code a0 a1 σc = some (r, σc1) ∧ fX10_code a0 a1 σm = some (r, σm1) ∧ Rel (i + 6) σc1 σm1 := by
  have h0 := h
  obtain ⟨n, b, n2, n5, hst, hev, him, hch, htp, hlw, hgv, hbs, hbd, hsh⟩ := h
  have dC := hst.1
  have dM := hst.2.1
  unfold fX9_code fX10_code
  rcases pu_ix a0 n (by omega) with hx | ⟨d, hd, rfl⟩
  · refine ⟨-1, σc, σm, ?_, ?_, Rel_mono h0⟩
    · rw [pu_has_no dC hx]; rfl
    · rw [pu_isDoor_no dM hx (by omega)]; rfl
  · rw [pu_has_yes dC hd, pu_isDoor_yes dM hd, Option.bind_some, Option.bind_some, if_neg pu_10, if_neg pu_10]
    rcases pu_rng a1 0 4 with hv | ⟨v, v0, v4, rfl⟩
    · refine ⟨-1, σc, σm, ?_, ?_, Rel_mono h0⟩
      · by_cases h1 : a1 < 0
        · rw [if_pos h1]; rfl
        · rw [if_neg h1, if_neg (fun q => by
            have := pu_rgI hv
            rw [Int32.lt_iff_toInt_lt, Int32.toInt_zero] at h1
            rw [Int32.le_iff_toInt_le, show (4 : Int32).toInt = 4 from rfl] at q
            omega)]; rfl
      · rw [show fX10_within a1.toInt64 0 4 = some 0 from pu_wi_no (lo := 0) (hi := 4) hv]; rfl
    · rw [if_neg pu_n1l, if_pos (pl_le v4), show fX10_within (nI v).toInt64 0 4 = some 1 from pu_wi_yes (lo := 0) (hi := 4) v0 v4, Option.bind_some, if_neg pu_10, if_pos (inb_nI (by omega)), if_pos (inb_nI (by omega)), cl_nI, pu_k]
      unfold fX7_say fX7_say_b21
      rw [pu_saidOf dC hd n5, Option.bind_some, pu_has_yes dC hd, Option.bind_some, if_neg pu_10, if_pos (inb_nI (by omega)), cl_nI, pu_k, Option.bind_some, (hst.2.2.2.1 d (by omega)).2]
      refine ⟨σc.1 3 0 d, _, _, rfl, rfl, n, b, n2, n5, ⟨dC, dM, hst.2.2.1, fun j hj => ?_, hst.2.2.2.2⟩, hev, R_im_mono him, hch, htp, hlw, hgv, R_bs_mono hbs, hbd, hsh⟩
      by_cases hjd : j = d
      · subst hjd
        rw [pu_siE, pu_siE]
        exact ⟨⟨v, by omega, rfl⟩, rfl⟩
      · rw [pu_siJ hjd, pu_siJ hjd]
        exact hst.2.2.2.1 j hj
theorem pp_led (h : Rel i σc σm) (hi : i ≤ 3072) (a0 : Int32) : ∃ (r : Int32), fX9_led a0 σc = some r ∧ fX10_led a0 σm = some r ∧ Rel (i + 6) σc σm := by
  have h0 := Rel_mono h
  obtain ⟨n, b, n2, n5, hst, hev, him, hch, htp, hlw, hgv, hbs, hbd, hsh⟩ := h
  obtain ⟨w1, w2, w3⟩ := hev.2
  unfold fX9_led fX10_led
  rcases pu_rng a0 0 2 with hv | ⟨v, v0, v4, rfl⟩
  · refine ⟨-1, ?_, ?_, h0⟩
    · have q := pu_rgI hv
      rw [if_neg (fun e => by rw [e, Int32.toInt_zero] at q; omega), if_neg (fun e => by rw [e, show (1 : Int32).toInt = 1 from rfl] at q; omega), if_neg (fun e => by rw [e, show (2 : Int32).toInt = 2 from rfl] at q; omega)]
    · rw [show fX10_within a0.toInt64 0 2 = some 0 from pu_wi_no (lo := 0) (hi := 2) hv]; rfl
  · rw [show fX10_within (nI v).toInt64 0 2 = some 1 from pu_wi_yes (lo := 0) (hi := 2) v0 v4, Option.bind_some, if_neg pu_10, if_pos (inb_nI (by omega)), cl_nI]
    rcases (show v = 0 ∨ v = 1 ∨ v = 2 by omega) with rfl | rfl | rfl
    · exact ⟨σm.1 14 0 0, by rw [← w2]; rfl, rfl, h0⟩
    · exact ⟨σm.1 14 0 1, by rw [← w3]; rfl, rfl, h0⟩
    · exact ⟨σm.1 14 0 2, by rw [← w1]; rfl, rfl, h0⟩
theorem pp_win (h : Rel i σc σm) (hi : i ≤ 3072) (a0 : Int32) : ∃ (r : Int32) (σc1 : ab_S) (σm1 : ab_S), fX9_win a0 σc = some (r, σc1) ∧ fX10_win a0 σm = some (r, σm1) ∧ Rel (i + 6) σc1 σm1 := by
  have h0 := Rel_mono h
  obtain ⟨n, b, n2, n5, hst, hev, him, hch, htp, hlw, hgv, hbs, hbd, hsh⟩ := h
  obtain ⟨t, c, s, ht, hc, hs, e1, e2, e3, e4, e5, e6, e7⟩ := ev_x hev n5
  obtain ⟨w1, w2, w3⟩ := hev.2
  have dC := hst.1
  have dM := hst.2.1
  unfold fX9_win fX10_win
  rcases pu_ix a0 n (by omega) with hx | ⟨d, hd, rfl⟩
  · refine ⟨-1, σc, σm, ?_, ?_, h0⟩
    · rw [pu_has_no dC hx]; rfl
    · rw [pu_isDoor_no dM hx (by omega)]; rfl
  · rw [pu_has_yes dC hd, pu_isDoor_yes dM hd, Option.bind_some, Option.bind_some, if_neg pu_10, if_neg pu_10]
    unfold fX4_end
    rw [pu_isOpen e5 hs (by omega), e7, Option.bind_some, Option.bind_some, pu_isInM s hs d (by omega), Option.bind_some, e3, e4]
    have fin : ∀ (kC kM : Nat) (lC : Int32), kC < 3 → kM < 3 → (∀ v : Int32, LedV ((ab_si σc 8 0 kC v).1 8 0) ((ab_si σm 14 0 kM v).1 14 0)) → σc.1 8 0 kC = σm.1 14 0 kM → ∃ (r : Int32) (σc1 : ab_S) (σm1 : ab_S), (fX4_end_b25 (nI kC) σc).bind (fun q3 => some (q3.1, q3.2)) = some (r, σc1) ∧ fX10_win_b63 (nI kC) (nI kM) σm = some (r, σm1) ∧ Rel (i + 6) σc1 σm1 := by
      intro kC kM lC h1 h2 h3 h4
      unfold fX4_end_b25 fX10_win_b63 fX4_begin
      rw [if_pos (inb_nI h1), if_pos (inb_nI h1), if_pos (inb_nI h2), if_pos (inb_nI h2), cl_nI, cl_nI, pu_k, pu_k, pu_k, pu_k, pu_k, Option.bind_some, Option.bind_some, h4]
      refine ⟨nI kC, _, _, rfl, rfl, n, b, n2, n5, hst, ⟨?_, h3 _⟩, R_im_mono him, hch, htp, hlw, hgv, R_bs_mono hbs, hbd, hsh⟩
      exact ⟨0, c, by omega, hc, rfl, rfl, e3, e4, rfl, fun a ha => by omega⟩
    cases hb : s.testBit d
    · by_cases hdc : d = c
      · simp only [Bool.false_eq_true, ↓reduceIte]
        rw [if_pos (by rw [hdc]), if_pos (by rw [hdc])]
        exact fin 1 0 1 (by omega) (by omega) (fun v => ⟨w1, rfl, w3⟩) w2
      · simp only [Bool.false_eq_true, ↓reduceIte]
        rw [if_neg (pu_ne hdc), if_neg (pu_ne hdc)]
        exact fin 0 2 0 (by omega) (by omega) (fun v => ⟨rfl, w2, w3⟩) w1
    · simp only [pu_10, ↓reduceIte]
      exact fin 2 1 2 (by omega) (by omega) (fun v => ⟨w1, w2, rfl⟩) w3
theorem pp_count (h : Rel i σc σm) (hi : i ≤ 3072) (a0 : Int32) : ∃ (r : Int32), fX9_count a0 σc = some r ∧ fX10_count a0 σm = some r ∧ Rel (i + 6) σc σm := by
  have h0 := Rel_mono h
  obtain ⟨n, b, n2, n5, hst, hev, him, hch, htp, hlw, hgv, hbs, hbd, hsh⟩ := h
  obtain ⟨t, c, s, ht, hc, hs, e1, e2, e3, e4, e5, e6, e7⟩ := ev_x hev n5
  obtain ⟨L, -, f1, f2, -⟩ := htp
  obtain ⟨d, a, -, -, g1, -, g2, -⟩ := hch
  obtain ⟨-, k1, k2, -, ⟨r, -, k3, k4⟩, -⟩ := hbd
  unfold fX9_count fX10_count fX4_openDoors
  rw [hst.1, hst.2.1, e5, e7, e1, e2, f1, f2, g1, g2, k1, k2, k3, k4, (pu_pcC s hs).1, Option.bind_some, Option.bind_some, Option.bind_some, pu_pcM s hs, Option.bind_some]
  by_cases x0 : a0 = 0
  · rw [if_pos x0]
    exact ⟨_, rfl, rfl, h0⟩
  rw [if_neg x0]
  by_cases x1 : a0 = 1
  · rw [if_pos x1]
    exact ⟨_, rfl, rfl, h0⟩
  rw [if_neg x1]
  by_cases x2 : a0 = 2
  · rw [if_pos x2]
    exact ⟨_, rfl, rfl, h0⟩
  rw [if_neg x2]
  by_cases x3 : a0 = 3
  · rw [if_pos x3]
    exact ⟨_, rfl, rfl, h0⟩
  rw [if_neg x3]
  by_cases x4 : a0 = 4
  · rw [if_pos x4]
    exact ⟨_, rfl, rfl, h0⟩
  rw [if_neg x4]
  by_cases x5 : a0 = 5
  · rw [if_pos x5]
    exact ⟨_, rfl, rfl, h0⟩
  rw [if_neg x5]
  by_cases x6 : a0 = 6
  · rw [if_pos x6]
    exact ⟨_, rfl, rfl, h0⟩
  rw [if_neg x6]
  exact ⟨_, rfl, rfl, h0⟩
theorem pp_feed (h : Rel i σc σm) (hi : i ≤ 3072) (a0 : Int32) : ∃ (r : Int32) (σc1 : ab_S) (σm1 : ab_S), fX9_feed a0 σc = some (r, σc1) ∧ fX10_feed a0 σm = some (r, σm1) ∧ Rel (i + 6) σc1 σm1 := by
  have h0 := Rel_mono h
  obtain ⟨n, b, n2, n5, hst, hev, him, hch, htp, hlw, hgv, hbs, hbd, hsh⟩ := h
  obtain ⟨L, hL, f1, f2, ff⟩ := htp
  unfold fX9_feed fX10_feed
  rcases pu_rng a0 0 255 with hv | ⟨v, v0, v4, rfl⟩
  · refine ⟨-1, σc, σm, ?_, ?_, h0⟩
    · by_cases h1 : a0 < 0
      · rw [if_pos h1]; rfl
      · rw [if_neg h1, if_neg (fun q => by
          have := pu_rgI hv
          rw [Int32.lt_iff_toInt_lt, Int32.toInt_zero] at h1
          rw [Int32.le_iff_toInt_le, show (255 : Int32).toInt = 255 from rfl] at q
          omega)]; rfl
    · rw [show fX10_within a0.toInt64 0 255 = some 0 from pu_wi_no (lo := 0) (hi := 255) hv]; rfl
  · rw [if_neg pu_n1l, if_pos (pl_le v4), show fX10_within (nI v).toInt64 0 255 = some 1 from pu_wi_yes (lo := 0) (hi := 255) v0 v4, Option.bind_some, if_neg pu_10, f2]
    unfold fX8_append fX8_isFull fX8_isFull_b14
    rw [f1]
    by_cases hf : L = 120
    · subst hf
      exact ⟨-3, σc, σm, rfl, rfl, h0⟩
    · rw [if_pos (pl_lt (b := 120) (by omega)), if_pos isb0, Option.bind_some, if_pos (by rfl), Option.bind_some, if_pos (by rfl), if_pos (inb_nI (by omega)), if_neg (pl_ne hf), if_pos (inb_nI (by omega)), cl_nI]
      simp only [pu_k]
      have a1 : (ab_si σc 19 0 L (nI v)).1 18 0 2 = nI L := f1
      have b1 : (ab_si σm 8 0 L (nI v)).1 0 0 14 = nI L := f2
      rw [a1, b1, nI_1, Option.bind_some]
      refine ⟨nI (L + 1), _, _, rfl, rfl, n, b, n2, n5, hst, hev, R_im_mono him, hch, ⟨L + 1, by omega, rfl, rfl, fun k hk => ?_⟩, hlw, hgv, R_bs_mono hbs, hbd, hsh⟩
      show (ab_si σm 8 0 L (nI v)).1 8 0 k = (ab_si σc 19 0 L (nI v)).1 19 0 k ∧ ∃ b, b ≤ 255 ∧ (ab_si σc 19 0 L (nI v)).1 19 0 k = nI b
      by_cases hkL : k = L
      · subst hkL
        rw [pu_siE, pu_siE]
        exact ⟨rfl, v, v4, rfl⟩
      · rw [pu_siJ hkL, pu_siJ hkL]
        exact ff k (by omega)
theorem pp_body (h : Rel i σc σm) (hi : i ≤ 3072) (a0 : Int32) : ∃ (r : Int32) (σc1 : ab_S) (σm1 : ab_S), fX9_body a0 σc = some (r, σc1) ∧ fX10_body a0 σm = some (r, σm1) ∧ Rel (i + 6) σc1 σm1 := by
  have h0 := Rel_mono h
  obtain ⟨n, b, n2, n5, hst, hev, him, hch, htp, hlw, hgv, hbs, hbd, hsh⟩ := h
  obtain ⟨b50, k1, k2, kk, k3, k4⟩ := hbd
  unfold fX9_body fX10_body
  rcases pu_ix a0 8 (by omega) with hx | ⟨d, hd, rfl⟩
  · refine ⟨-1, σc, σm, ?_, ?_, h0⟩
    · rw [pu_isKind_no hx]; rfl
    · rw [show fX10_within a0.toInt64 0 7 = some 0 from pu_wi_no (lo := 0) (hi := 7) (pu_ixr hx)]; rfl
  · rw [pu_isKind_yes hd, show fX10_within (nI d).toInt64 0 7 = some 1 from pu_wi_yes (lo := 0) (hi := 7) (by omega) (by omega), Option.bind_some, Option.bind_some, if_neg pu_10, if_neg pu_10, k2]
    unfold fX0_add fX0_isFull fX0_isFull_b14 fX9_body_b32
    rw [k1]
    by_cases hf : b = 50
    · subst hf
      exact ⟨-3, σc, σm, rfl, rfl, h0⟩
    · rw [if_pos (pl_lt (b := 50) (by omega)), if_pos isb0, Option.bind_some, if_pos (by rfl), Option.bind_some, if_pos (by rfl), if_pos (inb_nI (by omega)), if_neg (pl_ne hf), if_pos (inb_nI (by omega)), cl_nI]
      simp only [pu_k]
      have a1 : (ab_si σc 37 0 b (nI d)).1 36 0 2 = nI b := k1
      have b1 : (ab_si σm 18 0 b (nI d)).1 0 0 35 = nI b := k2
      rw [a1, b1, nI_1, Option.bind_some, pu_siE, pu_siE, show nI (b + 1) - 1 = nI b from nI_pred b]
      refine ⟨nI b, _, _, rfl, rfl, n, b + 1, n2, n5, hst, hev, R_im_mono him, hch, htp, hlw, hgv, R_bs_mono hbs, ⟨by omega, rfl, rfl, fun k hk => ?_, k3, k4⟩, fun j hj => ?_⟩
      · show isN 8 ((ab_si σc 37 0 b (nI d)).1 37 0 k) ∧ (ab_si σm 18 0 b (nI d)).1 18 0 k = (ab_si σc 37 0 b (nI d)).1 37 0 k
        by_cases hkb : k = b
        · subst hkb
          rw [pu_siE, pu_siE]
          exact ⟨⟨d, hd, rfl⟩, rfl⟩
        · rw [pu_siJ hkb, pu_siJ hkb]
          exact kk k (by omega)
      · rcases hsh j hj with q | ⟨k, hk, q⟩ | q
        · exact Or.inl q
        · exact Or.inr (Or.inl ⟨k, by omega, q⟩)
        · exact Or.inr (Or.inr q)
theorem pp_trace (h : Rel i σc σm) (hi : i ≤ 3072) (a0 : Int32) : ∃ (r : Int32), fX9_trace a0 σc = some r ∧ fX10_trace a0 σm = some r ∧ Rel (i + 6) σc σm := by
  have h0 := Rel_mono h
  obtain ⟨n, b, n2, n5, hst, hev, him, hch, htp, hlw, hgv, hbs, hbd, hsh⟩ := h
  obtain ⟨b50, k1, k2, kk, ⟨r, hr, k3, k4⟩, k5⟩ := hbd
  unfold fX9_trace fX10_trace fX0_ranAt fX0_ranAt_b27 fX0_ranAt_b28 fX10_trace_b27 fX10_trace_b28
  rw [k3, k4]
  by_cases h1 : a0 < 0
  · rw [if_pos h1, if_pos h1]
    exact ⟨-1, rfl, rfl, h0⟩
  · rw [if_neg h1, if_neg h1]
    by_cases h2 : nI r ≤ a0
    · rw [if_pos h2, if_pos h2]
      exact ⟨-1, rfl, rfl, h0⟩
    · rw [if_neg h2, if_neg h2]
      rcases pu_ix a0 24 (by omega) with hx | ⟨d, hd, rfl⟩
      · rw [if_pos (show (24 : Int32) ≤ a0 from hx.resolve_left h1), if_pos (show (24 : Int32) ≤ a0 from hx.resolve_left h1)]
        exact ⟨-1, rfl, rfl, h0⟩
      · rw [if_neg (pr_nle hd), if_neg (pr_nle hd), if_pos (inb_nI hd), if_pos (inb_nI hd), cl_nI, k5 d hd]
        exact ⟨_, rfl, rfl, h0⟩
theorem pp_of (h : Rel i σc σm) (hi : i ≤ 3072) (a0 : Int32) (a1 : Int32) : ∃ (r : Int32), fX9_of a0 a1 σc = some r ∧ fX10_of a0 a1 σm = some r ∧ Rel (i + 6) σc σm := by
  have h0 := Rel_mono h
  obtain ⟨n, b, n2, n5, hst, hev, him, hch, htp, hlw, hgv, hbs, hbd, hsh⟩ := h
  obtain ⟨t, c, s, ht, hc, hs, e1, e2, e3, e4, e5, e6, e7⟩ := ev_x hev n5
  have dC := hst.1
  have dM := hst.2.1
  have hh := hev.1
  obtain ⟨t', c', ht', hc', w1, w2, w3, w4, w5, hh⟩ := hh
  have tt : t' = t := by rw [e1] at w1; exact ((nI_eq (by omega) (by omega)).mp w1).symm
  subst tt
  unfold fX9_of fX10_of
  rcases pu_rng a1 0 2 with hv | ⟨v, v0, v2, rfl⟩
  · have q := pu_rgI hv
    have hc2 : ∀ z : Option Int32, (if a1 < 0 then fX9_of_b32 a0 a1 σc else if 2 < a1 then fX9_of_b32 a0 a1 σc else z) = fX9_of_b32 a0 a1 σc := fun z => by
      by_cases h1 : a1 < 0
      · rw [if_pos h1]
      · rw [if_neg h1, if_pos (show (2 : Int32) < a1 from hv.resolve_left h1)]
    rw [hc2, show fX10_within a1.toInt64 0 2 = some 0 from pu_wi_no (lo := 0) (hi := 2) hv, Option.bind_some, if_pos (show (0 : Int32) = 0 from rfl)]
    unfold fX9_of_b32
    have key : a1 = nI 10 ∨ a1 = nI 11 → ∃ (r : Int32), fX9_of_b44 a0 a1 σc = some r ∧ (fX10_within a0.toInt64 0 (σm.1 0 0 9 - 1).toInt64).bind (fun q7 => if q7 = 0 then fX10_of_b126 (-2000000000) σm else if a1 = 10 then if ab_inb a0 3 = true then fX10_of_b126 (σm.1 5 0 a0.toNatClampNeg) σm else none else if ab_inb a0 3 = true then fX10_of_b126 (σm.1 6 0 a0.toNatClampNeg) σm else none) = some r := by
      intro h10
      unfold fX9_of_b44 fX9_of_b59 fX9_of_b87 fX10_of_b126
      rw [e1, e2]
      rcases pk_ix a0 (show t' < 2 ^ 31 by omega) with hx | hx | ⟨d, hd, rfl⟩
      · rw [if_pos hx, within_eq, bI_f (fun q => by
          have q1 := q.1
          rw [Int64.le_iff_toInt_le, Int32.toInt_toInt64, Int64.toInt_zero] at q1
          rw [Int32.lt_iff_toInt_lt, Int32.toInt_zero] at hx
          omega)]
        exact ⟨_, rfl, rfl⟩
      · by_cases h1 : a0 < 0
        · rw [if_pos h1, within_eq, bI_f (fun q => by
            have q1 := q.1
            rw [Int64.le_iff_toInt_le, Int32.toInt_toInt64, Int64.toInt_zero] at q1
            rw [Int32.lt_iff_toInt_lt, Int32.toInt_zero] at h1
            omega)]
          exact ⟨_, rfl, rfl⟩
        · rw [if_neg h1, if_neg (fun q => by rw [Int32.lt_iff_toInt_lt] at q; rw [Int32.le_iff_toInt_le] at hx; omega), within_eq, bI_f (fun q => by
            have q1 := q.2
            have e : (nI t' - 1).toInt = (t' : Int) - 1 := pk_sub_toInt (a := t') (b := 1) (by omega) (by omega)
            rw [Int64.le_iff_toInt_le, Int32.toInt_toInt64, Int32.toInt_toInt64, e] at q1
            rw [Int32.le_iff_toInt_le, nI_toInt (by omega)] at hx
            omega)]
          exact ⟨_, rfl, rfl⟩
      · have ep : nI t' - 1 = nI (t' - 1) := by rw [show t' = t' - 1 + 1 by omega, nI_pred]; rfl
        rw [if_neg pu_n1l, if_pos (pu_lt hd), ep, nI_l (n := t' - 1) (by omega), show fX10_within (nI d).toInt64 0 (lN (t' - 1)) = some 1 from pu_wi_yes (lo := 0) (by omega) (by omega), Option.bind_some, if_neg pu_10]
        unfold fX4_openedIn fX4_chosenIn fX4_openedIn_b27 fX4_chosenIn_b30
        rw [e1, if_neg pu_n1l, if_neg pu_n1l, if_neg (pu_nle hd), if_neg (pu_nle hd), if_neg (pr_nle (b := 3) (by omega)), if_neg (pr_nle (b := 3) (by omega)), if_pos (inb_nI (by omega)), if_pos (inb_nI (by omega)), if_pos (inb_nI (by omega)), cl_nI, (hh d hd).1, (hh d hd).2.1]
        rcases h10 with rfl | rfl
        · rw [if_pos (show nI 10 = 10 from rfl), if_pos (show nI 10 = 10 from rfl)]
          exact ⟨_, rfl, rfl⟩
        · rw [if_neg (pl_ne (a := 11) (b := 10) (by omega)), if_neg (pl_ne (a := 11) (b := 10) (by omega)), if_pos (inb_nI (by omega))]
          exact ⟨_, rfl, rfl⟩
    rcases pu_rng a1 10 11 with hw | ⟨w, w0, w2', rfl⟩
    · have qw := pu_rgI hw
      rw [if_neg (fun e => by rw [e, show (10 : Int32).toInt = 10 from rfl] at qw; omega), if_neg (fun e => by rw [e, show (11 : Int32).toInt = 11 from rfl] at qw; omega), show fX10_within a1.toInt64 10 11 = some 0 from pu_wi_no (lo := 10) (hi := 11) hw, Option.bind_some, if_pos (show (0 : Int32) = 0 from rfl)]
      unfold fX9_of_b102 fX10_of_b141 fX9_ofAll fX10_ofAll fX10_ofAll_b32
      by_cases hz : a0 = 0
      · rw [if_pos hz, if_pos hz]
        by_cases x20 : a1 = 20
        · subst x20
          exact ⟨σc.1 1 0 4, rfl, by rw [← hst.2.2.2.2.1.2]; rfl, h0⟩
        · by_cases x21 : a1 = 21
          · subst x21
            exact ⟨σc.1 1 0 5, rfl, by rw [← hst.2.2.2.2.2.2]; rfl, h0⟩
          · rw [if_neg x20, if_neg x20, if_neg x21, if_neg x21, e3, e4, dC, dM]
            by_cases x22 : a1 = 22
            · rw [if_pos x22]
              exact ⟨_, rfl, rfl, h0⟩
            · rw [if_neg x22]
              by_cases x23 : a1 = 23
              · rw [if_pos x23]
                exact ⟨_, rfl, rfl, h0⟩
              · rw [if_neg x23]
                exact ⟨_, rfl, rfl, h0⟩
      · rw [if_neg hz, if_neg hz]
        exact ⟨_, rfl, rfl, h0⟩
    · rw [show fX10_within (nI w).toInt64 10 11 = some 1 from pu_wi_yes (lo := 10) (hi := 11) w0 w2', Option.bind_some, if_neg pu_10]
      rcases (show w = 10 ∨ w = 11 by omega) with rfl | rfl
      · obtain ⟨r, k1, k2⟩ := key (Or.inl rfl)
        exact ⟨r, k1, k2, h0⟩
      · obtain ⟨r, k1, k2⟩ := key (Or.inr rfl)
        exact ⟨r, k1, k2, h0⟩
  · rw [if_neg pu_n1l, if_neg (pr_nlt v2), show fX10_within (nI v).toInt64 0 2 = some 1 from pu_wi_yes (lo := 0) (hi := 2) v0 v2, Option.bind_some, if_neg pu_10]
    rcases pu_ix a0 n (by omega) with hx | ⟨d, hd, rfl⟩
    · rw [pu_has_no dC hx, pu_isDoor_no dM hx (by omega)]
      exact ⟨_, rfl, rfl, h0⟩
    · rw [pu_has_yes dC hd, pu_isDoor_yes dM hd, Option.bind_some, Option.bind_some, if_neg pu_10, if_neg pu_10]
      unfold fX9_ofDoor
      rw [if_pos (inb_nI (by omega)), if_pos (inb_nI (by omega)), cl_nI, pu_told0 dC hd n5, pu_isOpen e5 hs (by omega), pu_saidOf dC hd n5, e7, Option.bind_some, Option.bind_some, Option.bind_some, Option.bind_some, pu_isInM s hs d (by omega), Option.bind_some, (hst.2.2.1 d (by omega)).2, (hst.2.2.2.1 d (by omega)).2]
      rcases (show v = 0 ∨ v = 1 ∨ v = 2 by omega) with rfl | rfl | rfl
      · exact ⟨_, rfl, rfl, h0⟩
      · cases s.testBit d
        · exact ⟨0, rfl, rfl, h0⟩
        · exact ⟨1, rfl, rfl, h0⟩
      · exact ⟨_, rfl, rfl, h0⟩
end
