/-! PURE, 20: law, opens -/
theorem lt_congr {t t' : Nat → Int32} {L : Nat} (h : ∀ k, k < L → t k = t' k) : lt_ t L = lt_ t' L := by
  funext p
  unfold lt_
  by_cases q : p < L
  · rw [if_pos q, if_pos q, h p q]
  · rw [if_neg q, if_neg q]
theorem Law_congr {t t' : Nat → Int32} {L : Nat} {l3 : Int32} {cod cod' : Nat → Int32} (h : ∀ k, k < L → t' k = t k) (hc : ∀ k, k < 121 → cod' k = cod k) (hl : Law_ t L l3 cod) : Law_ t' L l3 cod' := by
  obtain ⟨h1, h2, h3, h4, h5, h6⟩ := hl
  have e := lt_congr (t := t') (t' := t) (L := L) h
  unfold Law_
  rw [e]
  exact ⟨fun k hk => by rw [h k hk]; exact h1 k hk, h2, h3, h4, h5, fun k hk => by rw [hc k (by omega)]; exact h6 k hk⟩
theorem Law_cods {t : Nat → Int32} {L : Nat} {l3 : Int32} {cod : Nat → Int32} (hl : Law_ t L l3 cod) : cods l3 cod = (rd_ (lt_ t L)).2.2 := by
  obtain ⟨h1, h2, h3, h4, h5, h6⟩ := hl
  unfold cods
  rw [h5, cl_nI (by omega)]
  apply List.ext_getElem?
  intro i
  rw [List.getElem?_map]
  by_cases q : i < (rd_ (lt_ t L)).2.2.length
  · rw [List.getElem?_range q, h6 i q]
    rfl
  · rw [List.getElem?_eq_none (by simp; omega), List.getElem?_eq_none (by omega)]
    rfl
theorem lwok {n : Nat} {σc σm : ab_S} (h : R_lw n σc σm) : LwOK σc := by
  intro k hk
  obtain ⟨-, h1 | ⟨h1, m, hm, h2, h3⟩⟩ := h k hk
  · exact ⟨Or.inl h1.1, fun z => by rw [h1.1] at z; exact absurd z (by decide)⟩
  · exact ⟨Or.inr h1, fun _ => ⟨_, h3.2.2.2.1, h3.2.2.2.2.1⟩⟩
/-- the reference's answer about one door -/
theorem gives_ok {n : Nat} {σc σm : ab_S} (hlw : R_lw n σc σm) (hn : σm.1 0 0 6 = nI n) {h d x c s a : Nat} (hh : h < 4) (hd : d < 5) (hx : x < 5) (hs : s < 32) : ∃ σ', fX10_gives (nI h) (nI d) (nI x) (nI c) (nI s) (nI a) σm = some (nI (tw σc h a (pc s) c d x), σ') ∧ mG σ' = mG σm := by
  obtain ⟨l6, hw⟩ := hlw h hh
  unfold fX10_gives fX10_gives_b20 fX10_gives_b111
  rw [if_pos (inb_nI hh), cl_nI (d := h) (by omega)]
  rcases hw with ⟨w1, w2⟩ | ⟨w1, m, hm, w2, w3⟩
  · have e : tw σc h a (pc s) c d x = if d = x then 0 else 12 := by
      unfold tw twV
      rw [w1, if_pos rfl]
    rw [w2, if_neg (by decide), e]
    by_cases hdx : d = x
    · rw [if_pos (by rw [hdx]), if_pos hdx]
      exact ⟨σm, rfl, rfl⟩
    · rw [if_neg (pu_ne hdx), if_neg hdx]
      exact ⟨σm, rfl, rfl⟩
  · rw [w2, if_pos (pr_le (b := 0) (by omega)), if_pos (show ab_inb 0 6 = true from rfl)]
    simp only [pu_k, show ab_inb 1 6 = true from rfl, show ab_inb 2 6 = true from rfl, show ab_inb 3 6 = true from rfl, show ab_inb 4 6 = true from rfl, show ab_inb 5 6 = true from rfl, ↓reduceIte, show ((0 : Int32)).toNatClampNeg = 0 from rfl, show ((1 : Int32)).toNatClampNeg = 1 from rfl, show ((2 : Int32)).toNatClampNeg = 2 from rfl, show ((3 : Int32)).toNatClampNeg = 3 from rfl, show ((4 : Int32)).toNatClampNeg = 4 from rfl, show ((5 : Int32)).toNatClampNeg = 5 from rfl]
    rw [pu_pcM s hs, Option.bind_some]
    have r6 : (ab_si (ab_si (ab_si σm 11 0 0 (nI d)) 11 0 1 (nI x)) 11 0 2 (nI c)).1 0 0 6 = nI n := hn
    rw [r6]
    have r10 : (ab_si (ab_si (ab_si (ab_si (ab_si (ab_si σm 11 0 0 (nI d)) 11 0 1 (nI x)) 11 0 2 (nI c)) 11 0 3 (nI n)) 11 0 4 (nI (pc s))) 11 0 5 (nI a)).1 10 0 h = nI m := w2
    rw [r10, show (120 : Int32) = nI 120 from rfl, pk_mul]
    obtain ⟨v, σ', q1, ⟨q2, -⟩, q3, q4⟩ := wo_ok (t := fun j => σm.1 9 0 (120 * h + j)) (L := m) (σ := ab_si (ab_si (ab_si (ab_si (ab_si (ab_si σm 11 0 0 (nI d)) 11 0 1 (nI x)) 11 0 2 (nI c)) 11 0 3 (nI n)) 11 0 4 (nI (pc s))) 11 0 5 (nI a)) (B := nI (120 * h)) hm (Or.inr ⟨120 * h, by omega, rfl, fun k hk => rfl⟩)
    obtain ⟨-, u1, u2, -⟩ := id w3
    obtain ⟨-, q5⟩ := q4 (by rw [u1]; simp; omega)
    have e : tw σc h a (pc s) c d x = hl v := by
      unfold tw twV
      rw [w1, if_neg pu_10, Law_cods w3, q5, l6]
      rfl
    rw [q1, Option.bind_some, e]
    refine ⟨σ', ?_, q2.trans ((mG_si rfl).trans ((mG_si rfl).trans ((mG_si rfl).trans ((mG_si rfl).trans ((mG_si rfl).trans (mG_si rfl))))))⟩
    dsimp only
    rw [if_pos (inb_nI hh)]
    unfold hl
    by_cases h0 : v < 0
    · rw [if_neg (fun z => by rw [Int32.le_iff_toInt_le] at z; rw [Int32.lt_iff_toInt_lt] at h0; omega), if_pos h0]
      rfl
    · obtain ⟨k, hk, rfl⟩ := nI_of h0
      rw [if_pos (pr_le (b := 0) (by omega)), if_neg h0, cl_nI hk]
      by_cases h12 : 12 < k
      · rw [if_neg (pl_nle (b := 12) h12), if_pos (pr_lt (b := 12) h12)]
        rfl
      · rw [if_pos (pl_le (b := 12) (by omega)), if_neg (pr_nlt (b := 12) (by omega))]
theorem mB_P {σ σ' : ab_S} (h : mP σ' = mP σ) : mB σ' = mB σ ∧ mV σ' = mV σ := by
  have h2 := congrArg Prod.snd h
  have h2' : σ'.2 = σ.2 := h2
  refine ⟨Prod.ext ?_ ?_, Prod.ext ?_ rfl⟩
  · funext r k i
    show (if keepB r i = true then σ'.1 r k i else 0) = (if keepB r i = true then σ.1 r k i else 0)
    by_cases hb : keepB r i = true
    · rw [if_pos hb, if_pos hb]
      refine mP_get h ?_
      unfold keepB keepC at hb
      unfold keepP
      by_cases h20 : r = 20
      · subst h20; simp at hb
      · rw [if_neg h20]
        by_cases h18 : r = 18
        · subst h18; simp at hb; subst hb; rfl
        · rw [if_neg h18]
    · rw [if_neg hb, if_neg hb]
  · show (fun r k i => if r = 43 ∨ r = 32 then σ'.2 r k i else 0) = _
    rw [h2']
    rfl
  · funext r k i
    show (if keepV r i = true then σ'.1 r k i else 0) = (if keepV r i = true then σ.1 r k i else 0)
    by_cases hb : keepV r i = true
    · rw [if_pos hb, if_pos hb]
      refine mP_get h ?_
      unfold keepV at hb
      unfold keepP
      by_cases h20 : r = 20
      · subst h20; simp at hb
      · rw [if_neg h20]
        by_cases h18 : r = 18
        · subst h18; simp at hb
        · rw [if_neg h18]
    · rw [if_neg hb, if_neg hb]
theorem bec_ok {h : Nat} (σ : ab_S) : ∃ Y, fX5_become h σ = some Y ∧ Y.2 = σ.2 ∧ (∀ r k i, r ≠ 24 → r ≠ 26 → ¬ (r = 23 ∧ k = h ∧ (i = 3 ∨ i = 5)) → Y.1 r k i = σ.1 r k i) ∧ (∀ k, k ≠ h → Y.1 24 k = σ.1 24 k ∧ Y.1 26 k = σ.1 26 k) ∧ Y.1 23 h 3 = σ.1 18 0 3 ∧ Y.1 23 h 5 = 1 ∧ (∀ e, e < 121 → Y.1 24 h e = σ.1 20 0 e) ∧ (∀ e, e < 750 → Y.1 26 h e = 0) := by
  unfold fX5_become
  rw [if_pos (by decide)]
  simp only [pu_k]
  have e0 : ((0 : Int32)).toNatClampNeg = 0 := rfl
  have e121 : ((121 : Int32)).toNatClampNeg = 121 := rfl
  rw [e0, e121]
  have e3 : (ab_ci σ 20 0 0 24 h 0 121).1 18 0 3 = σ.1 18 0 3 := rfl
  rw [e3]
  obtain ⟨Y, q1, q2, q3, q4⟩ := fl_forget h (ab_si (ab_si (ab_ci σ 20 0 0 24 h 0 121) 23 h 3 (σ.1 18 0 3)) 23 h 5 1)
  rw [q1]
  refine ⟨Y, rfl, q2, fun r k i h1 h2 h3 => ?_, fun k hk => ⟨?_, ?_⟩, ?_, ?_, fun e he => ?_, q4⟩
  · rw [q3 r k i (by omega)]
    simp only [ab_si, ab_ci]
    rw [if_neg (by omega), if_neg (by omega), if_neg (by omega)]
  · funext i
    rw [q3 24 k i (by omega)]
    simp only [ab_si, ab_ci]
    rw [if_neg (by omega), if_neg (by omega), if_neg (by omega)]
  · funext i
    rw [q3 26 k i (by omega)]
    simp only [ab_si, ab_ci]
    rw [if_neg (by omega), if_neg (by omega), if_neg (by omega)]
  · rw [q3 23 h 3 (by omega)]
    simp only [ab_si, ab_ci]
    rw [if_neg (by omega), if_pos ⟨trivial, trivial, trivial⟩]
  · rw [q3 23 h 5 (by omega)]
    exact pu_siE
  · rw [q3 24 h e (by omega)]
    simp only [ab_si, ab_ci]
    rw [if_neg (by omega), if_neg (by omega), if_pos ⟨trivial, trivial, by omega, by omega⟩, show 0 + (e - 0) = e by omega]
theorem cp_L {h m : Nat} (hh : h < 4) (hm : m ≤ 120) : ∀ (k j fuel : Nat) (σ : ab_S), j + k = m → k < fuel → ∃ σ', fX10_law_b52 fuel (nI h) (nI m) (nI j) σ = some (1, σ') ∧ σ'.2 = σ.2 ∧ (∀ r c e, r ≠ 9 → r ≠ 10 → σ'.1 r c e = σ.1 r c e) ∧ σ'.1 10 0 h = nI m ∧ (∀ e, e ≠ h → σ'.1 10 0 e = σ.1 10 0 e) ∧ (∀ e, e < 120 * h + j ∨ 120 * h + m ≤ e → σ'.1 9 0 e = σ.1 9 0 e) ∧ (∀ e, j ≤ e → e < m → σ'.1 9 0 (120 * h + e) = σ.1 8 0 e) := by
  intro k
  induction k with
  | zero =>
    intro j fuel σ h1 h2
    obtain ⟨f, rfl⟩ : ∃ f, fuel = f + 1 := ⟨fuel - 1, by omega⟩
    refine ⟨ab_si σ 10 0 h (nI m), ?_, rfl, fun r c e h3 h4 => if_neg (by omega), pu_siE, fun e he => pu_siJ he, fun e _ => rfl, fun e h3 h4 => by omega⟩
    show fX10_law_b52_o _ _ _ _ _ = _
    unfold fX10_law_b52_o
    rw [if_pos (pu_le (by omega)), if_pos (inb_nI hh), cl_nI (by omega), pu_k]
  | succ k ih =>
    intro j fuel σ h1 h2
    obtain ⟨f, rfl⟩ : ∃ f, fuel = f + 1 := ⟨fuel - 1, by omega⟩
    obtain ⟨σ', q1, q2, q3, q4, q5, q6, q7⟩ := ih (j + 1) f (ab_si σ 9 0 (120 * h + j) (σ.1 8 0 j)) (by omega) (by omega)
    refine ⟨σ', ?_, q2, fun r c e h3 h4 => ?_, q4, q5, fun e he => ?_, fun e h3 h4 => ?_⟩
    · show fX10_law_b52_o _ _ _ _ _ = _
      unfold fX10_law_b52_o
      rw [if_neg (pu_nle (by omega)), if_pos (inb_nI (by omega)), show (120 : Int32) = nI 120 from rfl, pk_mul, nI_add, if_pos (inb_nI (by omega)), cl_nI (by omega), cl_nI (by omega), pu_k, nI_1]
      exact q1
    · rw [q3 r c e h3 h4]
      exact if_neg (by omega)
    · rw [q6 e (by omega)]
      exact pu_siJ (by omega)
    · by_cases hej : e = j
      · subst hej
        rw [q6 _ (by omega)]
        exact pu_siE
      · exact q7 e (by omega) h4
section
variable {i : Nat} {σc σm : ab_S}
theorem pp_law (h : Rel i σc σm) (hi : i ≤ 3072) (a0 : Int32) : ∃ (r : Int32) (σc1 : ab_S) (σm1 : ab_S), fX9_law a0 σc = some (r, σc1) ∧ fX10_law a0 σm = some (r, σm1) ∧ Rel (i + 6) σc1 σm1 := by
  have h0 := Rel_mono h
  obtain ⟨n, b, n2, n5, hst, hev, him, hch, htp, hlw, hgv, hbs, hbd, hsh⟩ := h
  unfold fX9_law fX10_law fX9_law_b9
  rcases pu_ix a0 4 (by omega) with hx | ⟨h, hh, rfl⟩
  · refine ⟨-1, σc, σm, ?_, ?_, h0⟩
    · by_cases h1 : a0 < 0
      · rw [if_pos h1]
      · rw [if_neg h1, if_neg (fun q => by
          have h2 := hx.resolve_left h1
          rw [Int32.le_iff_toInt_le, nI_toInt (by omega)] at h2
          rw [Int32.lt_iff_toInt_lt, show (4 : Int32).toInt = 4 from rfl] at q
          omega)]
    · rw [show fX10_within a0.toInt64 0 3 = some 0 from pu_wi_no (lo := 0) (hi := 3) (pu_ixr hx)]; rfl
  rw [if_neg pu_n1l, if_pos (pl_lt (b := 4) hh), show fX10_within (nI h).toInt64 0 3 = some 1 from pu_wi_yes (lo := 0) (hi := 3) (by omega) (by omega), Option.bind_some, if_neg pu_10]
  obtain ⟨L, hL, f1, f2, ff⟩ := htp
  obtain ⟨σ1, q1, q2, q3⟩ := rd_c (t := fun k => σc.1 19 0 k) hL f1 (fun k _ => rfl)
  obtain ⟨v, σ2, z1, ⟨z2, -⟩, z3, z4⟩ := wo_ok (t := fun k => σc.1 19 0 k) (L := L) (σ := σm) (B := -1) hL (Or.inl ⟨rfl, fun k hk => (ff k hk).1⟩)
  rw [q1, f2, z1, Option.bind_some, Option.bind_some, pu_k]
  obtain ⟨e1, e2⟩ := mB_P q2
  have ec := mC_B e1
  have em := mM_G z2
  have hst1 := R_st_fr hst ec em
  have hev1 := R_ev_fr hev ec em
  have him1 := R_im_mono (R_im_fr him ec em)
  have hch1 := R_ch_fr hch ec em
  have hlw1 := R_lw_fr hlw ec em
  have hgv1 := R_gv_fr hgv e2
  have hbs1 := R_bs_fr hbs e1
  have hbd1 := R_bd_fr hbd ec em
  have hsh1 := R_sh_fr hsh ec em
  have htp0 : ∀ (A B : ab_S), A.1 18 0 2 = 0 → B.1 0 0 14 = 0 → R_tp A B := fun A B h1 h2 => ⟨0, by omega, h1, h2, fun k hk => by omega⟩
  have r20 : (ab_si σ2 0 0 14 0).1 0 0 20 = σ2.1 0 0 20 := rfl
  rw [r20]
  unfold fX9_law_b35 fX9_law_b54 fX8_clear
  by_cases hw : (rd_ (lt_ (fun k => σc.1 19 0 k) L)).1 = true ∨ (rd_ (lt_ (fun k => σc.1 19 0 k) L)).2.1 < L
  · have hp : (rd_ (lt_ (fun k => σc.1 19 0 k) L)).2.1 < 2 ^ 31 := by
      have hP := q1
      have := (pc_read (t := fun k => σc.1 19 0 k) (L := L) (σ0 := ab_si (ab_si (ab_si σc 18 0 4 0) 18 0 3 0) 18 0 5 0) ⟨hL, f1, fun k _ => rfl, rfl, rfl, rfl, by omega, by omega⟩)
      have hb : ∀ (k : Nat) (r : PR), r.2.1 ≤ L → (prd (lt_ (fun k => σc.1 19 0 k) L) k r).2.1 ≤ L := by
        intro k
        induction k with
        | zero => intro r h; exact h
        | succ k ih =>
          intro r h
          obtain ⟨w, p, cs⟩ := r
          unfold prd
          by_cases hw : w = true
          · rw [if_pos hw]; exact h
          · rw [if_neg hw]
            by_cases h59 : lt_ (fun k => σc.1 19 0 k) L p = 59
            · rw [if_pos h59]
              have := eq_lt h59 (by decide)
              exact ih _ (pln_g (t := fun k => σc.1 19 0 k) (L := L) (p := p + 1) (by omega)).2.1
            · rw [if_neg h59]; exact h
      have := hb 1024 _ (pln_g (t := fun k => σc.1 19 0 k) (L := L) (p := 0) (by omega)).2.1
      unfold rd_
      omega
    have hf := z3 hw
    have hle : (0 : Int32) ≤ nI (rd_ (lt_ (fun k => σc.1 19 0 k) L)).2.1 := pr_le (b := 0) (by omega) hp
    rw [if_pos hw, hf, if_neg (pu_n1l hp)]
    simp only [hle, pu_k, Option.bind_some, ↓reduceIte]
    exact ⟨_, _, _, rfl, rfl, n, b, n2, n5, hst1, hev1, him1, hch1, htp0 _ _ rfl rfl, hlw1, hgv1, R_bs_mono hbs1, hbd1, hsh1⟩
  · have hf := (z4 hw).1
    have h1 : (rd_ (lt_ (fun k => σc.1 19 0 k) L)).1 = false := by
      cases hq : (rd_ (lt_ (fun k => σc.1 19 0 k) L)).1 with
      | false => rfl
      | true => exact absurd (Or.inl hq) hw
    have h2 : L ≤ (rd_ (lt_ (fun k => σc.1 19 0 k) L)).2.1 := by
      rcases Nat.lt_or_ge (rd_ (lt_ (fun k => σc.1 19 0 k) L)).2.1 L with q | q
      · exact absurd (Or.inr q) hw
      · exact q
    obtain ⟨u1, u2, u3⟩ := q3 h1
    rw [if_neg hw, hf, if_pos (show (-1 : Int32) < 0 by decide)]
    dsimp only
    rw [if_neg (show ¬ (0 : Int32) ≤ -1 by decide)]
    unfold fX1_takeLaw
    rw [pu_isHost_yes hh, Option.bind_some, if_neg pu_10, if_pos (inb_nI hh), cl_nI (d := h) (by omega)]
    obtain ⟨Y, y1, y2, y3, y4, y5, y6, y7, y8⟩ := bec_ok (h := h) σ1
    have r14 : σ2.1 0 0 14 = nI L := by rw [mM_get em rfl]; exact f2
    obtain ⟨M, m1, m2, m3, m4, m5, m6, m7⟩ := cp_L hh hL L 0 ab_N (ab_si σ2 0 0 14 0) (by omega) (by rw [pu_N]; omega)
    rw [show nI 0 = (0 : Int32) from rfl] at m1
    rw [y1, r14, m1]
    simp only [pu_k, Option.bind_some]
    rw [if_neg (show ¬ (0 : Int32) ≤ -1 by decide)]
    have eY := ov_eq (P := fun r i => decide (r = 24) || (decide (r = 26) || (decide (r = 23) && (decide (i = 3) || decide (i = 5))))) y2 (fun r k i hP => by
      simp only [Bool.or_eq_false_iff, Bool.and_eq_false_imp, decide_eq_false_iff_not, decide_eq_true_eq] at hP
      exact y3 r k i hP.1 hP.2.1 (fun z => by have := hP.2.2 z.1; omega))
    have eM := ov_eq (P := fun r i => decide (r = 9) || decide (r = 10)) m2 (fun r k i hP => by
      simp only [Bool.or_eq_false_iff, decide_eq_false_iff_not] at hP
      exact m3 r k i hP.1 hP.2)
    have sc : ∀ k e, σ1.1 19 k e = σc.1 19 k e := fun k e => mP_get q2 rfl
    have s8 : ∀ e, σ2.1 8 0 e = σm.1 8 0 e := fun e => mM_get em rfl
    refine ⟨1, ab_si (ab_si Y 1 0 6 (Y.1 1 0 6 + 1)) 18 0 2 0, M, rfl, rfl, ?_⟩
    have y66 : Y.1 1 0 6 = σ1.1 1 0 6 := y3 1 0 6 (by omega) (by omega) (by omega)
    rw [y66, eY, eM]
    refine ⟨n, b, n2, n5, hst1, hev1, him1, hch1, htp0 _ _ rfl rfl, fun k hk => ?_, fun k hk => ?_, ?_, hbd1, hsh1⟩
    · obtain ⟨w0, w⟩ := hlw1 k hk
      by_cases hkh : k = h
      · subst hkh
        refine ⟨w0, Or.inr ⟨y6, L, hL, m4, ?_⟩⟩
        show Law_ (fun j => M.1 9 0 (120 * k + j)) L (Y.1 23 k 3) (Y.1 24 k)
        have key : Law_ (fun j => σc.1 19 0 j) L (Y.1 23 k 3) (Y.1 24 k) := by
          refine ⟨fun j hj => (ff j hj).2, h1, h2, u2, by rw [y5, u1], fun j hj => ?_⟩
          rw [y7 j (by omega)]
          cases hg : (rd_ (lt_ (fun k => σc.1 19 0 k) L)).2.2[j]? with
          | none => rw [List.getElem?_eq_none_iff] at hg; omega
          | some x => rw [u3 j x hg]
        refine Law_congr (fun j hj => ?_) (fun _ _ => rfl) key
        rw [m7 j (by omega) hj]
        show σ2.1 8 0 j = _
        rw [s8, (ff j hj).1]
      · refine ⟨w0, ?_⟩
        have g5 : Y.1 23 k 5 = σ1.1 23 k 5 := y3 23 k 5 (by omega) (by omega) (by omega)
        have g3 : Y.1 23 k 3 = σ1.1 23 k 3 := y3 23 k 3 (by omega) (by omega) (by omega)
        show (Y.1 23 k 5 = 0 ∧ M.1 10 0 k = -1) ∨ (Y.1 23 k 5 = 1 ∧ ∃ m, m ≤ 120 ∧ M.1 10 0 k = nI m ∧ Law_ (fun j => M.1 9 0 (120 * k + j)) m (Y.1 23 k 3) (Y.1 24 k))
        rw [g5, g3, m5 k hkh, (y4 k hkh).1]
        rcases w with w | ⟨w1, m, hm, w2, w3⟩
        · exact Or.inl w
        · refine Or.inr ⟨w1, m, hm, w2, Law_congr (fun j hj => ?_) (fun _ _ => rfl) w3⟩
          rw [m6 (120 * k + j) (by omega)]
          rfl
    · by_cases hkh : k = h
      · subst hkh
        exact Or.inr (fun a r c d x ha hr hc hd hx => Or.inl (y8 _ (seat_lt ha hr hc hd hx)))
      · have g5 : Y.1 23 k 5 = σ1.1 23 k 5 := y3 23 k 5 (by omega) (by omega) (by omega)
        have g3 : Y.1 23 k 3 = σ1.1 23 k 3 := y3 23 k 3 (by omega) (by omega) (by omega)
        show Y.1 23 k 5 = 0 ∨ ∀ a r c d x, a < 3 → r ≤ a → c < 5 → d < 5 → x < 5 → Y.1 26 k (seat a r c d x) = 0 ∨ Y.1 26 k (seat a r c d x) = nI (1 + twV (Y.1 23 k 3) (Y.1 23 k 5) (σ1.1 23 k 6) (Y.1 24 k) a r c d x)
        rw [g5, g3, (y4 k hkh).1, (y4 k hkh).2]
        exact hgv1 k hk
    · refine bs_age hbs1 1 (by omega) (by omega) (fun g hg => ?_) (fun h => rfl)
      show σ1.1 1 0 6 + 1 = _
      rw [hg, nI_1]
/-- the host that is there, asked by the class -/
theorem twh_ok {σ : ab_S} (hg : R_gv σ) (hL : LwOK σ) {h a r c d x : Nat} (e : σ.1 1 0 4 = nI h) (hh : h < 4) (ha : a ≤ 3) (hr : r ≤ 5) (hc : c < 5) (hd : d < 5) (hx : x < 5) : ∃ σ', fX1_twelfths (nI a) (nI r) (nI c) (nI d) (nI x) σ = some (nI (tw σ h a r c d x), σ') ∧ mT σ' = mT σ ∧ R_gv σ' := by
  unfold fX1_twelfths fX1_twelfths_b39
  rw [e, pu_isHost_yes hh, Option.bind_some, if_neg pu_10, if_pos (inb_nI hh), cl_nI (by omega)]
  obtain ⟨σ', q1, q2, q3⟩ := tw_ok hg hL hh ha hr hc hd hx
  exact ⟨σ', by rw [q1]; rfl, q2, q3⟩
theorem pp_opens (h : Rel i σc σm) (hi : i ≤ 3072) (a0 : Int32) : ∃ (r : Int32) (σc1 : ab_S) (σm1 : ab_S), fX9_opens a0 σc = some (r, σc1) ∧ fX10_opens a0 σm = some (r, σm1) ∧ Rel (i + 6) σc1 σm1 := by
  have hh0 := h
  have h0 := Rel_mono h
  obtain ⟨n, b, n2, n5, hst, hev, him, hch, htp, hlw, hgv, hbs, hbd, hsh⟩ := h
  obtain ⟨t, c, s, ht, hc, hs, e1, e2, e3, e4, e5, e6, e7⟩ := ev_x hev n5
  have dC := hst.1
  have dM := hst.2.1
  unfold fX9_opens fX10_opens fX9_opens_b32 fX9_opens_b56 fX10_opens_b28 fX10_opens_b55 fX10_opens_b90
  by_cases hneg : a0 < 0
  · rw [if_pos hneg]
    refine ⟨-1, σc, σm, ?_, rfl, h0⟩
    have hneg' : a0.toInt < 0 := by rw [Int32.lt_iff_toInt_lt, Int32.toInt_zero] at hneg; exact hneg
    have hm : ∃ m : Nat, a0.toInt = -(m : Int) ∧ m ≤ 2 ^ 31 := ⟨a0.toInt.natAbs, by omega, by have := Int32.le_toInt a0; omega⟩
    obtain ⟨m, hm, hm2⟩ := hm
    have hd : (a0 / 10).toInt = -((m / 10 : Nat) : Int) := by
      rw [Int32.toInt_div, hm, show (10 : Int32).toInt = ((10 : Nat) : Int) from rfl, Int.neg_tdiv, ← Int.ofNat_tdiv]
      exact Int.bmod_eq_of_le (by omega) (by omega)
    by_cases hq : a0 / 10 < 0
    · rw [pu_has_no dC (Or.inl hq)]; rfl
    · rcases pk_ix (a0 / 10) (show n < 2 ^ 31 by omega) with w | w | ⟨k, hk, w⟩
      · exact absurd w hq
      · rw [pu_has_no dC (Or.inr w)]; rfl
      · rw [w, pu_has_yes dC hk, Option.bind_some, if_neg pu_10]
        have hk0 : (k : Int) = -((m / 10 : Nat) : Int) := by
          rw [← hd, w, nI_toInt (by omega)]
        have hk1 : k = 0 := by omega
        have : ab_mod a0 10 < 0 := by
          unfold ab_mod
          rw [w, hk1, show nI 0 * 10 = (0 : Int32) from rfl, show a0 - 0 = a0 by simp]
          exact hneg
        rw [pu_has_no dC (Or.inl this)]; rfl
  · rw [if_neg hneg]
    obtain ⟨a, ha, rfl⟩ := nI_of hneg
    have ed : nI a / 10 = nI (a / 10) := pk_div (d := 10) ha (by omega) (by omega)
    have er : ab_mod (nI a) 10 = nI (a % 10) := pk_rem (d := 10) ha (by omega) (by omega)
    rw [ed, er]
    by_cases hd : a / 10 < n
    · rw [pu_has_yes dC hd, pu_isDoor_yes dM hd, Option.bind_some, Option.bind_some, if_neg pu_10, if_neg pu_10]
      by_cases hx : a % 10 < n
      · rw [pu_has_yes dC hx, pu_isDoor_yes dM hx, Option.bind_some, Option.bind_some, if_neg pu_10, if_neg pu_10, e3, e4]
        by_cases hdc : a / 10 = c
        · rw [if_pos (by rw [hdc]), if_pos (by rw [hdc])]
          exact ⟨-5, σc, σm, rfl, rfl, h0⟩
        · rw [if_neg (pu_ne hdc), if_neg (pu_ne hdc), pu_isOpen e5 hs (by omega), e7, Option.bind_some, Option.bind_some, pu_isInM s hs _ (by omega), Option.bind_some]
          cases hb : s.testBit (a / 10) with
          | true =>
            simp only [pu_10, ↓reduceIte]
            exact ⟨-5, σc, σm, rfl, rfl, h0⟩
          | false =>
            simp only [Bool.false_eq_true, ↓reduceIte]
            obtain ⟨⟨k, hk, k1⟩, k2⟩ := hst.2.2.2.2.1
            unfold fX4_openDoors
            obtain ⟨σ1, q1, q2, q3⟩ := twh_ok hgv (lwok hlw) (a := t) (r := pc s) (c := c) (d := a / 10) (x := a % 10) k1 hk ht (pu_pcC s hs).2 (by omega) (by omega) (by omega)
            obtain ⟨σ2, z1, z2⟩ := gives_ok hlw dM (h := k) (d := a / 10) (x := a % 10) (c := c) (s := s) (a := t) hk (by omega) (by omega) hs
            rw [e5, (pu_pcC s hs).1, Option.bind_some, Option.bind_some, e1, q1, if_pos (show ab_inb 5 7 = true from rfl), show ((5 : Int32)).toNatClampNeg = 5 from rfl, k2, k1, Option.bind_some, Option.bind_some, e2, z1]
            exact ⟨_, σ1, σ2, rfl, rfl, Rel_fr hh0 (mB_T q2) (mM_G z2) q3⟩
      · rw [pu_has_no dC (Or.inr (pu_le (by omega))), pu_isDoor_no dM (Or.inr (pu_le (by omega))) (by omega)]
        exact ⟨-1, σc, σm, rfl, rfl, h0⟩
    · rw [pu_has_no dC (Or.inr (pu_le (by omega))), pu_isDoor_no dM (Or.inr (pu_le (by omega))) (by omega)]
      exact ⟨-1, σc, σm, rfl, rfl, h0⟩
end
