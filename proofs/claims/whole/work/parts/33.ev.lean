/-! PURE, 3: the evening, and the methods of it -/
theorem opN_lt {o : Nat → Int32} : ∀ t : Nat, (∀ a, a < t → o a = -1 ∨ ∃ d, d < 5 ∧ o a = nI d) → opN o t < 32
  | 0, _ => by simp [opN]
  | t + 1, h => by
    have ih := opN_lt t (fun a ha => h a (by omega))
    unfold opN
    rcases h t (by omega) with e | ⟨d, hd, e⟩
    · rw [e, if_pos (by decide)]; exact ih
    · rw [e, if_neg pu_n1l, cl_nI]
      exact (pu_or _ ih d hd).2
theorem opN_congr {o o' : Nat → Int32} : ∀ t : Nat, (∀ a, a < t → o' a = o a) → opN o' t = opN o t
  | 0, _ => rfl
  | t + 1, h => by
    unfold opN
    rw [opN_congr t (fun a ha => h a (by omega)), h t (by omega)]
theorem pu_openBehindL {σ : ab_S} {m : Nat} (hm : m ≤ 3) (ho : ∀ a, a < m → σ.1 5 0 a = -1 ∨ ∃ d, d < 5 ∧ σ.1 5 0 a = nI d) : ∀ (k j fuel : Nat), j + k = m → k < fuel → fX10_openBehind_b4 fuel (nI m) (nI (opN (σ.1 5 0) j)) (nI j) σ = some (nI (opN (σ.1 5 0) m)) := by
  intro k
  induction k with
  | zero =>
    intro j fuel h1 h2
    obtain ⟨f, rfl⟩ : ∃ f, fuel = f + 1 := ⟨fuel - 1, by omega⟩
    show fX10_openBehind_b4_o _ _ _ _ _ = _
    unfold fX10_openBehind_b4_o
    rw [if_pos (pu_le (by omega)), show j = m by omega]
  | succ k ih =>
    intro j fuel h1 h2
    obtain ⟨f, rfl⟩ : ∃ f, fuel = f + 1 := ⟨fuel - 1, by omega⟩
    show fX10_openBehind_b4_o _ _ _ _ _ = _
    unfold fX10_openBehind_b4_o fX10_openBehind_b31
    rw [if_neg (pu_nle (by omega)), if_pos (inb_nI (by omega)), cl_nI]
    have hl := opN_lt j (fun a ha => ho a (by omega))
    have st : opN (σ.1 5 0) (j + 1) = if σ.1 5 0 j < 0 then opN (σ.1 5 0) j else opN (σ.1 5 0) j ||| 2 ^ (σ.1 5 0 j).toNatClampNeg := rfl
    rcases ho j (by omega) with e | ⟨d, hd, e⟩
    · rw [e, if_pos (by decide)] at st
      rw [e, if_pos (by decide), show nI (opN (σ.1 5 0) j) ||| 0 = nI (opN (σ.1 5 0) (j + 1)) by rw [st]; simp, nI_1]
      exact ih (j + 1) f (by omega) (by omega)
    · rw [e, if_neg pu_n1l, cl_nI] at st
      rw [e, if_neg pu_n1l, if_pos (inb_nI (by omega)), (pu_or _ hl d hd).1, ← st, nI_1]
      exact ih (j + 1) f (by omega) (by omega)
theorem pu_openBehind {σ : ab_S} {m : Nat} (hm : m ≤ 3) (ho : ∀ a, a < m → σ.1 5 0 a = -1 ∨ ∃ d, d < 5 ∧ σ.1 5 0 a = nI d) : fX10_openBehind (nI m) σ = some (nI (opN (σ.1 5 0) m)) := by
  unfold fX10_openBehind
  exact pu_openBehindL hm ho m 0 1024 (by omega) (by omega)
theorem ev_x {n : Nat} {σc σm : ab_S} (h : R_ev n σc σm) (hn : n ≤ 5) : ∃ t c s, t ≤ 3 ∧ c < n ∧ s < 32 ∧ σc.1 5 0 3 = nI t ∧ σm.1 0 0 9 = nI t ∧ σc.1 5 0 4 = nI c ∧ σm.1 0 0 8 = nI c ∧ σc.1 5 0 5 = nI s ∧ s = opN (σc.1 6 0) t ∧ fX10_openNow σm = some (nI s) := by
  obtain ⟨⟨t, c, ht, hc, e1, e2, e3, e4, e5, hh⟩, -⟩ := h
  have ho : ∀ a, a < t → σc.1 6 0 a = -1 ∨ ∃ d, d < 5 ∧ σc.1 6 0 a = nI d := fun a ha => by
    rcases (hh a ha).2.2.2 with q | ⟨d, hd, q, -⟩
    · exact Or.inl q
    · exact Or.inr ⟨d, by omega, q⟩
  refine ⟨t, c, _, ht, hc, opN_lt t ho, e1, e2, e3, e4, e5, rfl, ?_⟩
  unfold fX10_openNow
  rw [e2, pu_openBehind ht (fun a ha => by rw [(hh a ha).1]; exact ho a ha), Option.bind_some, opN_congr t (fun a ha => (hh a ha).1)]
theorem pu_isOpen {σ : ab_S} {s d : Nat} (e : σ.1 5 0 5 = nI s) (hs : s < 32) (hd : d < 5) : fX4_isOpen (nI d) σ = some (if s.testBit d then 1 else 0) := by
  unfold fX4_isOpen
  rw [e, pu_isInC s hs d hd, Option.bind_some]
  cases s.testBit d <;> rfl
section
variable {i : Nat} {σc σm : ab_S}
theorem pp_choose (h : Rel i σc σm) (hi : i ≤ 3072) (a0 : Int32) : ∃ (r : Int32) (σc1 : ab_S) (σm1 : ab_S), fX9_choose a0 σc = some (r, σc1) ∧ fX10_choose a0 σm = some (r, σm1) ∧ Rel (i + 6) σc1 σm1 := by
  have h0 := h
  obtain ⟨n, b, n2, n5, hst, hev, him, hch, htp, hlw, hgv, hbs, hbd, hsh⟩ := h
  obtain ⟨t, c, s, ht, hc, hs, e1, e2, e3, e4, e5, e6, e7⟩ := ev_x hev n5
  have dC := hst.1
  have dM := hst.2.1
  rcases pu_ix a0 n (by omega) with hx | ⟨d, hd, rfl⟩
  · refine ⟨-1, σc, σm, ?_, ?_, Rel_mono h0⟩
    · unfold fX9_choose; rw [pu_has_no dC hx]; rfl
    · unfold fX10_choose; rw [pu_isDoor_no dM hx (by omega)]; rfl
  · cases hb : s.testBit d
    · refine ⟨nI c, ab_si σc 5 0 4 (nI d), ab_si σm 0 0 8 (nI d), ?_, ?_, ?_⟩
      · unfold fX9_choose
        rw [pu_has_yes dC hd, Option.bind_some, if_neg pu_10, pu_isOpen e5 hs (by omega), hb, Option.bind_some, if_pos (by rfl), pu_k, e3]
      · unfold fX10_choose
        rw [pu_isDoor_yes dM hd, Option.bind_some, if_neg pu_10, e7, Option.bind_some, pu_isInM s hs d (by omega), hb, Option.bind_some, if_pos (by rfl), pu_k, e4]
      · refine ⟨n, b, n2, n5, hst, ?_, R_im_mono him, hch, htp, hlw, hgv, R_bs_mono hbs, hbd, hsh⟩
        obtain ⟨⟨t, c, ht, hc, q1, q2, q3, q4, q5, hh⟩, hl⟩ := hev
        exact ⟨⟨t, d, ht, hd, q1, q2, rfl, rfl, q5, hh⟩, hl⟩
    · refine ⟨-5, σc, σm, ?_, ?_, Rel_mono h0⟩
      · unfold fX9_choose
        rw [pu_has_yes dC hd, Option.bind_some, if_neg pu_10, pu_isOpen e5 hs (by omega), hb, Option.bind_some, if_neg (by decide)]
      · unfold fX10_choose
        rw [pu_isDoor_yes dM hd, Option.bind_some, if_neg pu_10, e7, Option.bind_some, pu_isInM s hs d (by omega), hb, Option.bind_some, if_neg (by decide)]
theorem pp_anew (h : Rel i σc σm) (hi : i ≤ 3072) : ∃ (r : Int32) (σc1 : ab_S) (σm1 : ab_S), fX9_anew σc = some (r, σc1) ∧ fX10_anew σm = some (r, σm1) ∧ Rel (i + 6) σc1 σm1 := by
  obtain ⟨n, b, n2, n5, hst, hev, him, hch, htp, hlw, hgv, hbs, hbd, hsh⟩ := h
  obtain ⟨⟨t, c, ht, hc, q1, q2, q3, q4, q5, hh⟩, hl⟩ := hev
  refine ⟨nI t, ab_si (ab_si σc 5 0 3 0) 5 0 5 0, ab_si σm 0 0 9 0, ?_, ?_, ?_⟩
  · unfold fX9_anew fX4_begin
    rw [pu_k, pu_k, Option.bind_some, q1]
  · unfold fX10_anew
    rw [pu_k, q2]
  · refine ⟨n, b, n2, n5, hst, ⟨⟨0, c, by omega, hc, rfl, rfl, q3, q4, rfl, fun a ha => by omega⟩, hl⟩, R_im_mono him, hch, htp, hlw, hgv, R_bs_mono hbs, hbd, hsh⟩
/-- whether a door may be opened: alike on both sides -/
theorem mayOpen_x {n : Nat} (hst : R_st n σc σm) (n1 : 1 ≤ n) (n5 : n ≤ 5) {c s : Nat} (hs : s < 32) (hc : c < n) (e3 : σc.1 5 0 4 = nI c) (e4 : σm.1 0 0 8 = nI c) (e5 : σc.1 5 0 5 = nI s) (e7 : fX10_openNow σm = some (nI s)) (x : Int32) :
    (fX9_mayOpen x σc = some 0 ∧ fX10_mayOpen x σm = some 0) ∨ (fX9_mayOpen x σc = some 1 ∧ fX10_mayOpen x σm = some 1 ∧ (x = -1 ∨ ∃ d, d < n ∧ x = nI d ∧ d ≠ c ∧ s.testBit d = false)) := by
  have dC := hst.1
  have dM := hst.2.1
  unfold fX9_mayOpen fX10_mayOpen
  by_cases hm : x = -1
  · rw [if_pos hm, if_pos hm]
    exact Or.inr ⟨rfl, rfl, Or.inl hm⟩
  · rw [if_neg hm, if_neg hm]
    rcases pu_ix x n (by omega) with hx | ⟨d, hd, rfl⟩
    · rw [pu_has_no dC hx, pu_isDoor_no dM hx n1]
      exact Or.inl ⟨rfl, rfl⟩
    · rw [pu_has_yes dC hd, pu_isDoor_yes dM hd, Option.bind_some, Option.bind_some, if_neg pu_10, if_neg pu_10, e3, e4]
      by_cases hdc : d = c
      · rw [if_pos (by rw [hdc]), if_pos (by rw [hdc])]
        exact Or.inl ⟨rfl, rfl⟩
      · rw [if_neg (pu_ne hdc), if_neg (pu_ne hdc), pu_isOpen e5 hs (by omega), e7, Option.bind_some, Option.bind_some, pu_isInM s hs d (by omega), Option.bind_some]
        cases hb : s.testBit d
        · exact Or.inr ⟨rfl, rfl, Or.inr ⟨d, hd, rfl, hdc, hb⟩⟩
        · exact Or.inl ⟨rfl, rfl⟩
theorem pp_opened (h : Rel i σc σm) (hi : i ≤ 3072) (a0 : Int32) : ∃ (r : Int32) (σc1 : ab_S) (σm1 : ab_S), fX9_opened a0 σc = some (r, σc1) ∧ fX10_opened a0 σm = some (r, σm1) ∧ Rel (i + 6) σc1 σm1 := by
  have h0 := h
  obtain ⟨n, b, n2, n5, hst, hev, him, hch, htp, hlw, hgv, hbs, hbd, hsh⟩ := h
  obtain ⟨t, c, s, ht, hc, hs, e1, e2, e3, e4, e5, e6, e7⟩ := ev_x hev n5
  unfold fX9_opened fX10_opened
  rcases mayOpen_x hst (by omega) n5 hs hc e3 e4 e5 e7 a0 with ⟨q1, q2⟩ | ⟨q1, q2, hx⟩
  · refine ⟨-1, σc, σm, ?_, ?_, Rel_mono h0⟩
    · rw [q1]; rfl
    · rw [q2]; rfl
  · rw [q1, q2, Option.bind_some, Option.bind_some, if_neg pu_10, if_neg pu_10, e1, e2]
    by_cases ht3 : t = 3
    · subst ht3
      exact ⟨-3, σc, σm, rfl, rfl, Rel_mono h0⟩
    · rw [if_pos (pl_lt (b := 3) (by omega)), if_neg (pl_ne (b := 3) (by omega)), if_pos (inb_nI (by omega))]
      unfold fX4_add fX4_add_b68
      rw [e1, if_neg pu_n1l, if_pos (pl_lt (b := 3) (by omega)), if_pos (inb_nI (by omega)), cl_nI]
      simp only [pu_k]
      have a1 : (ab_si σc 6 0 t a0).1 5 0 3 = nI t := e1
      have a2 : (ab_si σc 6 0 t a0).1 5 0 4 = nI c := e3
      have b1 : (ab_si σm 5 0 t a0).1 0 0 9 = nI t := e2
      have b2 : (ab_si σm 5 0 t a0).1 0 0 8 = nI c := e4
      rw [a1, a2, b1, b2, if_pos (inb_nI (by omega)), if_pos (inb_nI (by omega)), cl_nI]
      have a3 : (ab_si (ab_si σc 6 0 t a0) 7 0 t (nI c)).1 5 0 3 = nI t := e1
      have b3 : (ab_si (ab_si σm 5 0 t a0) 6 0 t (nI c)).1 0 0 9 = nI t := e2
      rw [a3, b3, nI_1]
      have hh := hev.1
      obtain ⟨t', c', ht', hc', w1, w2, w3, w4, w5, hh⟩ := hh
      have tt : t' = t := by rw [e1] at w1; exact ((nI_eq (by omega) (by omega)).mp w1).symm
      have cc : c' = c := by rw [e3] at w3; exact ((nI_eq (by omega) (by omega)).mp w3).symm
      subst tt cc
      have old : ∀ a, a < t' → ∀ v : Int32, (ab_si σc 6 0 t' v).1 6 0 a = σc.1 6 0 a := fun a ha v => pu_siJ (by omega)
      have key : ∀ (σ1 : ab_S), σ1.1 6 0 = (ab_si σc 6 0 t' a0).1 6 0 → σ1.1 7 0 = (ab_si σc 7 0 t' (nI c')).1 7 0 → σ1.1 5 0 3 = nI (t' + 1) → σ1.1 5 0 4 = nI c' → σ1.1 5 0 5 = nI (opN (σ1.1 6 0) (t' + 1)) → ∀ (tM chM : Int32), tM = nI (t' + 1) → chM = nI c' → EvV n (σ1.1 6 0) (σ1.1 7 0) (σ1.1 5 0 3) (σ1.1 5 0 4) (σ1.1 5 0 5) ((ab_si σm 5 0 t' a0).1 5 0) ((ab_si σm 6 0 t' (nI c')).1 6 0) tM chM := by
        intro σ1 r1 r2 r3 r4 r5 tM chM r6 r7
        refine ⟨t' + 1, c', by omega, hc, r3, r6, r4, r7, r5, fun a ha => ?_⟩
        rw [r1, r2]
        by_cases hat : a = t'
        · subst hat
          rw [pu_siE, pu_siE, pu_siE, pu_siE]
          refine ⟨rfl, rfl, ⟨c', hc, rfl⟩, ?_⟩
          rcases hx with hx | ⟨d, hd, hx, hdc, hsb⟩
          · exact Or.inl hx
          · refine Or.inr ⟨d, hd, hx, pu_ne (fun q => hdc q.symm), ?_⟩
            rw [opN_congr (o := σc.1 6 0) a (fun a' ha' => old a' ha' a0), ← e6]
            exact hsb
        · rw [pu_siJ hat, pu_siJ hat, pu_siJ hat, pu_siJ hat]
          obtain ⟨z1, z2, z3, z4⟩ := hh a (by omega)
          refine ⟨z1, z2, z3, ?_⟩
          rw [opN_congr (o := σc.1 6 0) a (fun a' ha' => old a' (by omega) a0)]
          exact z4
      have opn : opN ((ab_si σc 6 0 t' a0).1 6 0) t' = s := by
        rw [e6]
        exact opN_congr t' (fun a' ha' => old a' ha' a0)
      have stp : opN ((ab_si σc 6 0 t' a0).1 6 0) (t' + 1) = if a0 < 0 then s else s ||| 2 ^ a0.toNatClampNeg := by
        show (if (ab_si σc 6 0 t' a0).1 6 0 t' < 0 then opN ((ab_si σc 6 0 t' a0).1 6 0) t' else opN ((ab_si σc 6 0 t' a0).1 6 0) t' ||| 2 ^ ((ab_si σc 6 0 t' a0).1 6 0 t').toNatClampNeg) = _
        rw [pu_siE, opn]
      rcases hx with hx | ⟨d, hd, hx, hdc, hsb⟩
      · rw [if_pos hx, Option.bind_some]
        refine ⟨nI (t' + 1), _, _, rfl, rfl, n, b, n2, n5, hst, ⟨key (ab_si (ab_si (ab_si σc 6 0 t' a0) 7 0 t' (nI c')) 5 0 3 (nI (t' + 1))) rfl rfl rfl e3 ?_ _ _ rfl e4, hev.2⟩, R_im_mono him, hch, htp, hlw, hgv, R_bs_mono hbs, hbd, hsh⟩
        show σc.1 5 0 5 = nI (opN ((ab_si σc 6 0 t' a0).1 6 0) (t' + 1))
        rw [stp, hx, if_pos (by decide), e5]
      · subst hx
        rw [if_neg pu_n1]
        have a4 : (ab_si (ab_si (ab_si σc 6 0 t' (nI d)) 7 0 t' (nI c')) 5 0 3 (nI (t' + 1))).1 5 0 5 = nI s := e5
        rw [a4, (pu_or s hs d (by omega)).1, Option.bind_some]
        refine ⟨nI (t' + 1), _, _, rfl, rfl, n, b, n2, n5, hst, ⟨key (ab_si (ab_si (ab_si (ab_si σc 6 0 t' (nI d)) 7 0 t' (nI c')) 5 0 3 (nI (t' + 1))) 5 0 5 (nI (s ||| 2 ^ d))) rfl rfl rfl e3 ?_ _ _ rfl e4, hev.2⟩, R_im_mono him, hch, htp, hlw, hgv, R_bs_mono hbs, hbd, hsh⟩
        show nI (s ||| 2 ^ d) = nI (opN ((ab_si σc 6 0 t' (nI d)).1 6 0) (t' + 1))
        rw [stp, if_neg pu_n1l, cl_nI]
end
