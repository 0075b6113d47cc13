/-! PURE, 16: the class reads a law, to its end -/
section
variable {t : Nat → Int32} {L : Nat}
theorem CP.self {σ : ab_S} {p e : Nat} (h : CPs t L σ p e) : CP σ σ e (false, p, []) :=
  ⟨rfl, h.2.2.2.1, ⟨e, by have := h.1; have := h.2.2.2.2.2.2.1; have := h.2.2.2.2.2.2.2; omega, h.2.2.2.2.2.1⟩, fun z => (by cases z), fun _ => ⟨h.2.2.2.2.1, h.2.2.2.2.2.1, fun _ _ => rfl, fun i x hx => by simp at hx⟩⟩
/-- a part that is read behind others -/
theorem CP.wrong {σ : ab_S} {p e : Nat} (h : CPs t L σ p e) (cs : List Int32) : CP σ (ab_si σ 18 0 5 1) e (true, p, cs) :=
  ⟨mP_si rfl, h.2.2.2.1, ⟨e, by have := h.1; have := h.2.2.2.2.2.2.1; have := h.2.2.2.2.2.2.2; omega, h.2.2.2.2.2.1⟩, fun _ => rfl, fun z => (by cases z)⟩
theorem CP.wrong2 {σ σ' : ab_S} {e : Nat} {r : PR} (h : CP σ σ' e r) (cs : List Int32) : CP σ (ab_si σ' 18 0 5 1) e (true, r.2.1, cs) :=
  ⟨(mP_si rfl).trans h.1, h.2.1, h.2.2.1, fun _ => rfl, fun z => (by cases z)⟩
/-- the next byte is read, then r -/
theorem CP.pre {σ σ' : ab_S} {v : Int32} {e : Nat} {r : PR} (h : CP (ab_si σ 18 0 4 v) σ' e r) : CP σ σ' e r :=
  ⟨h.1.trans (mP_si rfl), h.2.1, h.2.2.1, h.2.2.2.1, fun z => h.2.2.2.2 z⟩
theorem CP.place {σ σ' : ab_S} {e p : Nat} {cs : List Int32} (h : CP σ σ' e (false, p, cs)) : CP σ (ab_si σ' 18 0 4 (nI (p + 1))) e (false, p + 1, cs) :=
  ⟨(mP_si rfl).trans h.1, rfl, h.2.2.1, fun z => (by cases z), fun z => h.2.2.2.2 z⟩
/-- one code more -/
theorem CP.emit {σ σ1 : ab_S} {p e : Nat} {r : PR} (h0 : CPs t L σ p e) (h : CP σ σ1 e r) (hb : r.1 = false → e + r.2.2.length < 121) (x : Int32) : ∃ σ2, fX8_emit x σ1 = some σ2 ∧ CP σ σ2 e (r.1, r.2.1, r.2.2 ++ [x]) := by
  obtain ⟨w, p1, cs⟩ := r
  obtain ⟨e', he', ce⟩ := h.2.2.1
  obtain ⟨σ2, y1, y2, y3, y4, y5, y6⟩ := pc_emit (x := x) ce he'
  refine ⟨σ2, y1, y2.trans h.1, by rw [y3]; exact h.2.1, y5, fun z => by rw [y4]; exact h.2.2.2.1 z, fun z => ?_⟩
  obtain ⟨u1, u2, u3, u4⟩ := h.2.2.2.2 z
  have hb' := hb z
  dsimp only at hb' u2 u4 ⊢
  have ee : e' = e + cs.length := by
    rw [ce] at u2
    exact (nI_eq (by omega) (by omega)).mp u2
  obtain ⟨x1, x2, x3⟩ := y6 (by omega)
  refine ⟨by rw [y4]; exact u1, ?_, fun i hi => ?_, fun i y hy => ?_⟩
  · rw [x1, ee]
    simp only [List.length_append, List.length_cons, List.length_nil]
    congr 1
  · rw [x3 i (by omega)]
    exact u3 i hi
  · rw [List.getElem?_append] at hy
    by_cases i1 : i < cs.length
    · rw [if_pos i1] at hy
      rw [x3 _ (by omega)]
      exact u4 i y hy
    · rw [if_neg i1] at hy
      have i3 : i - cs.length = 0 := by
        rcases Nat.eq_zero_or_pos (i - cs.length) with z | z
        · exact z
        · rw [List.getElem?_eq_none (by simp only [List.length_cons, List.length_nil]; omega)] at hy
          cases hy
      rw [i3] at hy
      simp at hy
      rw [← hy, show e + i = e' by omega]
      exact x2
/-- two parts, one behind the other -/
theorem CP.cat {σ σ1 σ2 : ab_S} {e : Nat} {r r2 : PR} (h : CP σ σ1 e r) (hw : r.1 = false) (h2 : CP σ1 σ2 (e + r.2.2.length) r2) : CP σ σ2 e (r2.1, r2.2.1, r.2.2 ++ r2.2.2) := by
  refine ⟨h2.1.trans h.1, h2.2.1, h2.2.2.1, h2.2.2.2.1, fun z => ?_⟩
  obtain ⟨u1, u2, u3, u4⟩ := h2.2.2.2.2 z
  obtain ⟨-, -, o3, o4⟩ := h.2.2.2.2 hw
  refine ⟨u1, ?_, fun i hi => ?_, fun i x hx => ?_⟩
  · rw [u2, List.length_append, Nat.add_assoc]
  · rw [u3 i (by omega)]
    exact o3 i hi
  · dsimp only at hx
    rw [List.getElem?_append] at hx
    by_cases i1 : i < r.2.2.length
    · rw [if_pos i1] at hx
      rw [u3 _ (by omega)]
      exact o4 i x hx
    · rw [if_neg i1] at hx
      have := u4 _ _ hx
      rw [show e + r.2.2.length + (i - r.2.2.length) = e + i by omega] at this
      exact this
theorem pc_main : ∀ f : Nat, (∀ (lv dp p e n : Nat) (σ : ab_S), lv ≤ 5 → dp ≤ 6 → 6 * (6 - dp) + 1 + (5 - lv) ≤ f → 8 * (6 - dp) + 1 + (6 - lv) ≤ n → CPs t L σ p e → ∃ σ', fX8_join n (nI lv) (nI dp) σ = some σ' ∧ CP σ σ' e (pj (lt_ t L) f lv dp p)) ∧
    (∀ (dp p e n : Nat) (σ : ab_S), dp ≤ 6 → 6 * (6 - dp) + 1 ≤ f → 8 * (6 - dp) + 1 ≤ n → CPs t L σ p e → ∃ σ', fX8_operand n (nI dp) σ = some σ' ∧ CP σ σ' e (pj (lt_ t L) f 5 dp p)) := by
  intro f
  induction f with
  | zero => exact ⟨fun lv dp p e n σ _ _ h => by omega, fun dp p e n σ _ h => by omega⟩
  | succ f ih =>
    obtain ⟨ihA, ihB⟩ := ih
    have B : ∀ (dp p e n : Nat) (σ : ab_S), dp ≤ 6 → 6 * (6 - dp) + 1 ≤ f + 1 → 8 * (6 - dp) + 1 ≤ n → CPs t L σ p e → ∃ σ', fX8_operand n (nI dp) σ = some σ' ∧ CP σ σ' e (pj (lt_ t L) (f + 1) 5 dp p) := by
      intro dp p e n σ hdp hf hn hc
      obtain ⟨n, rfl⟩ : ∃ m, n = m + 1 := ⟨n - 1, by omega⟩
      have hL := hc.1
      have hpL := hc.2.2.2.2.2.2.1
      have hep := hc.2.2.2.2.2.2.2
      have h4 := hc.2.2.2.1
      show ∃ σ', fX8_operand_o (fX8_bracket n) (fX8_join n) (fX8_operand n) (fX8_sign n) (nI dp) σ = some σ' ∧ _
      unfold fX8_operand_o fX8_operand_b105 fX8_operand_b68 fX8_operand_b110 pj
      rw [hc.lt, Option.bind_some, pc_isD, Option.bind_some, if_neg (show ¬ 5 < 5 by omega)]
      by_cases hd : isDg (lt_ t L p) = true
      · rw [if_pos hd, if_neg pu_10, if_pos hd]
        obtain ⟨σ', q1, q2⟩ := pc_num 4 ab_N p e 0 σ (by omega) (by decide) hc (fun z => by omega) (fun _ => hd)
        refine ⟨σ', ?_, q2⟩
        unfold fX8_number
        rw [show (0 : Int32) = nI (4 - 4) from rfl] at *
        rw [q1]; rfl
      rw [if_neg hd, if_pos rfl, if_neg hd, pc_isN, Option.bind_some]
      by_cases hnm : isNm (lt_ t L p) = true
      · rw [if_pos hnm, if_neg pu_10, if_pos hnm, pu_k, h4, nI_1]
        have hp := isNm_lt hnm
        have hc2 := hc.next hp
        obtain ⟨σ2, y1, y2⟩ := CP.emit (L := L) (t := t) hc2 (CP.self hc2) (fun _ => by simp only [List.length_nil]; omega) (lt_ t L p)
        rw [y1, Option.bind_some]
        exact ⟨σ2, rfl, y2.pre⟩
      rw [if_neg hnm, if_pos rfl, if_neg hnm]
      by_cases h6 : 6 ≤ dp
      · rw [if_pos (pr_le (b := 6) h6), if_pos h6, pu_k]
        exact ⟨_, rfl, CP.wrong hc []⟩
      rw [if_neg (pr_nle (b := 6) (by omega)), if_neg h6]
      by_cases h40 : lt_ t L p = 40
      · have hp := eq_lt h40 (by decide)
        have hc2 := hc.next hp
        have hg := pj_g (t := t) (L := L) f 0 (dp + 1) (p + 1) (by omega)
        rw [h40, if_pos rfl, if_pos rfl, pu_k, if_pos rfl, h4, nI_1, nI_1]
        obtain ⟨n, rfl⟩ : ∃ m, n = m + 1 := ⟨n - 1, by omega⟩
        obtain ⟨σ1, q1, q2⟩ := ihA 0 (dp + 1) (p + 1) e n _ (by omega) (by omega) (by omega) (by omega) hc2
        rw [show fX8_bracket (n + 1) (nI (dp + 1)) (ab_si σ 18 0 4 (nI (p + 1))) = fX8_bracket_o (fX8_bracket n) (fX8_join n) (fX8_operand n) (fX8_sign n) (nI (dp + 1)) (ab_si σ 18 0 4 (nI (p + 1))) from rfl]
        unfold fX8_bracket_o fX8_bracket_b41
        rw [show nI 0 = (0 : Int32) from rfl] at q1
        rw [q1, Option.bind_some]
        generalize hr : pj (lt_ t L) f 0 (dp + 1) (p + 1) = r at q2 hg
        obtain ⟨w, p1, cs⟩ := r
        dsimp only
        cases w with
        | true =>
          rw [q2.2.2.2.1 rfl, if_neg pu_10, Option.bind_some, if_pos (show true = true from rfl)]
          exact ⟨σ1, rfl, q2.pre⟩
        | false =>
          have hc3 := q2.on hc2 hg rfl
          dsimp only at hc3
          rw [hc3.2.2.2.2.1, if_pos (show (0 : Int32) = 0 from rfl), hc3.lt, Option.bind_some, if_neg Bool.false_ne_true]
          by_cases h41 : lt_ t L p1 = 41
          · rw [if_pos h41, pu_k, hc3.2.2.2.1, nI_1, Option.bind_some, if_pos h41]
            exact ⟨_, rfl, q2.place.pre⟩
          · rw [if_neg h41, pu_k, Option.bind_some, if_neg h41]
            exact ⟨_, rfl, (q2.wrong2 cs).pre⟩
      rw [if_neg h40, if_neg h40]
      have sg : (lt_ t L p = 33 ∨ lt_ t L p = 45) → ∃ σ', (ab_k (ab_si σ 18 0 4 (σ.1 18 0 4 + 1)) fun σ1 => if lt_ t L p = 40 then (fX8_bracket n (nI dp + 1) σ1).bind fun q4 => some q4 else (fX8_sign n (lt_ t L p) (nI dp + 1) σ1).bind fun q3 => some q3) = some σ' ∧ CP σ σ' e ((pj (lt_ t L) f 5 (dp + 1) (p + 1)).1, (pj (lt_ t L) f 5 (dp + 1) (p + 1)).2.1, (pj (lt_ t L) f 5 (dp + 1) (p + 1)).2.2 ++ [if lt_ t L p = 45 then 126 else lt_ t L p]) := by
        intro hs
        have hp : p < L := by
          rcases hs with z | z
          · exact eq_lt z (by decide)
          · exact eq_lt z (by decide)
        have hc2 := hc.next hp
        have hg := pj_g (t := t) (L := L) f 5 (dp + 1) (p + 1) (by omega)
        rw [pu_k, if_neg h40, h4, nI_1, nI_1]
        obtain ⟨n, rfl⟩ : ∃ m, n = m + 1 := ⟨n - 1, by omega⟩
        obtain ⟨σ1, q1, q2⟩ := ihB (dp + 1) (p + 1) e n _ (by omega) (by omega) (by omega) hc2
        rw [show fX8_sign (n + 1) (lt_ t L p) (nI (dp + 1)) (ab_si σ 18 0 4 (nI (p + 1))) = fX8_sign_o (fX8_bracket n) (fX8_join n) (fX8_operand n) (fX8_sign n) (lt_ t L p) (nI (dp + 1)) (ab_si σ 18 0 4 (nI (p + 1))) from rfl]
        unfold fX8_sign_o fX8_sign_b18
        rw [q1, Option.bind_some]
        obtain ⟨σ2, y1, y2⟩ := CP.emit hc2 q2 (fun z => by
          have := hg.2.2 z
          have := hg.2.1
          omega) (if lt_ t L p = 45 then 126 else lt_ t L p)
        by_cases h45 : lt_ t L p = 45
        · rw [if_pos h45] at y1 y2 ⊢
          rw [if_pos h45, y1]
          exact ⟨σ2, rfl, y2.pre⟩
        · rw [if_neg h45] at y1 y2 ⊢
          rw [if_neg h45, y1]
          exact ⟨σ2, rfl, y2.pre⟩
      by_cases h33 : lt_ t L p = 33
      · rw [if_pos h33, if_pos (Or.inl h33)]
        exact sg (Or.inl h33)
      rw [if_neg h33]
      by_cases h45 : lt_ t L p = 45
      · rw [if_pos h45, if_pos (Or.inr h45)]
        exact sg (Or.inr h45)
      · rw [if_neg h45, if_neg (fun z => z.elim h33 h45), pu_k]
        exact ⟨_, rfl, CP.wrong hc []⟩
    refine ⟨fun lv dp p e n σ hlv hdp hf hn hc => ?_, B⟩
    obtain ⟨n, rfl⟩ : ∃ m, n = m + 1 := ⟨n - 1, by omega⟩
    show ∃ σ', fX8_join_o (fX8_bracket n) (fX8_join n) (fX8_operand n) (fX8_sign n) (nI lv) (nI dp) σ = some σ' ∧ _
    unfold fX8_join_o fX8_join_b30
    by_cases h5 : lv < 5
    · rw [if_pos (pl_lt (b := 5) h5), nI_1]
      obtain ⟨σ1, q1, q2⟩ := ihA (lv + 1) dp p e n σ (by omega) hdp (by omega) (by omega) hc
      have hL := hc.1
      have hpL := hc.2.2.2.2.2.2.1
      have hg := pj_g (t := t) (L := L) f (lv + 1) dp p hpL
      rw [q1, Option.bind_some]
      have hp : pj (lt_ t L) (f + 1) lv dp p = plp (fun p' => pj (lt_ t L) f (lv + 1) dp p') (isJ lv) (lt_ t L) (if lv = 2 then 1 else 1024) (pj (lt_ t L) f (lv + 1) dp p) := by
        show (if lv < 5 then _ else _) = _
        rw [if_pos h5]
      rw [hp]
      have IH : ∀ (p e : Nat) (σ : ab_S), CPs t L σ p e → ∃ σ', fX8_join n (nI (lv + 1)) (nI dp) σ = some σ' ∧ CP σ σ' e (pj (lt_ t L) f (lv + 1) dp p) := fun p e σ h => ihA (lv + 1) dp p e n σ (by omega) hdp (by omega) (by omega) h
      by_cases h2 : lv = 2
      · subst h2
        rw [if_pos (show nI 2 = 2 from rfl), if_pos rfl]
        exact pc_loop (rc0 := fX8_bracket n) (rc2 := fX8_operand n) (rc3 := fX8_sign n) h5 hdp IH (M := 1) (by omega) hc 1 ab_N 0 _ σ1 (Or.inl ⟨rfl, by decide⟩) q2 hg (fun _ => by decide)
      · rw [if_neg (pl_ne (b := 2) h2), if_neg h2]
        exact pc_loop (rc0 := fX8_bracket n) (rc2 := fX8_operand n) (rc3 := fX8_sign n) h5 hdp IH (M := 120) (by omega) hc 1024 ab_N 0 _ σ1 (Or.inr ⟨rfl, by omega, by omega, by rw [pu_N]; omega⟩) q2 hg (fun _ => by decide)
    · have h5' : lv = 5 := by omega
      subst h5'
      rw [if_neg (by decide)]
      obtain ⟨σ1, q1, q2⟩ := B dp p e n σ hdp (by omega) (by omega) hc
      rw [q1]
      exact ⟨σ1, rfl, q2⟩
def PGl (L p0 : Nat) (r : PR) : Prop := p0 ≤ r.2.1 ∧ r.2.1 ≤ L ∧ (r.1 = false → r.2.2.length + p0 ≤ r.2.1 + 1)
theorem pln_g {p : Nat} (hp : p ≤ L) : PGl L p (pln (lt_ t L) p) := by
  obtain ⟨g1, g2, g3⟩ := pj_g (t := t) (L := L) 64 0 0 p hp
  unfold pln
  by_cases hw : (pj (lt_ t L) 64 0 0 p).1 = true
  · rw [if_pos hw]
    exact ⟨g1, g2, fun z => by rw [hw] at z; cases z⟩
  rw [if_neg hw]
  have g4 := g3 (by simpa using hw)
  by_cases h63 : lt_ t L (pj (lt_ t L) 64 0 0 p).2.1 = 63
  · rw [if_pos h63]
    have hp2 := eq_lt h63 (by decide)
    obtain ⟨k1, k2, k3⟩ := pj_g (t := t) (L := L) 64 0 0 ((pj (lt_ t L) 64 0 0 p).2.1 + 1) (by omega)
    refine ⟨by dsimp only; omega, k2, fun z => ?_⟩
    have := k3 z
    dsimp only
    simp only [List.length_append, List.length_cons, List.length_nil]
    omega
  · rw [if_neg h63]
    refine ⟨g1, g2, fun _ => ?_⟩
    dsimp only
    simp only [List.length_append, List.length_cons, List.length_nil]
    omega
theorem pc_line {p e : Nat} {σ : ab_S} (hc : CPs t L σ p e) : ∃ σ', fX8_line σ = some σ' ∧ CP σ σ' e (pln (lt_ t L) p) := by
  have hL := hc.1
  have hpL := hc.2.2.2.2.2.2.1
  have hep := hc.2.2.2.2.2.2.2
  obtain ⟨σ1, q1, q2⟩ := (pc_main (t := t) (L := L) 64).1 0 0 p e 64 σ (by omega) (by omega) (by omega) (by omega) hc
  have hg := pj_g (t := t) (L := L) 64 0 0 p hpL
  unfold fX8_line fX8_line_b44 pln
  rw [show nI 0 = (0 : Int32) from rfl] at q1
  rw [q1, Option.bind_some]
  generalize hr : pj (lt_ t L) 64 0 0 p = r at q2 hg
  obtain ⟨w, p1, cs⟩ := r
  dsimp only
  cases w with
  | true =>
    rw [q2.2.2.2.1 rfl, if_neg pu_10, if_pos (show true = true from rfl)]
    obtain ⟨σ2, y1, y2⟩ := CP.emit hc q2 (fun z => by cases z) 59
    rw [y1]
    exact ⟨σ2, rfl, y2.1, y2.2.1, y2.2.2.1, y2.2.2.2.1, fun z => (by cases z)⟩
  | false =>
    have hc2 := q2.on hc hg rfl
    have hg3 := hg.2.2 rfl
    have hg2 := hg.2.1
    dsimp only at hc2 hg3 hg2
    rw [hc2.2.2.2.2.1, if_pos (show (0 : Int32) = 0 from rfl), hc2.lt, Option.bind_some, if_neg Bool.false_ne_true]
    by_cases h63 : lt_ t L p1 = 63
    · have hp1 := eq_lt h63 (by decide)
      rw [if_pos h63, pu_k, hc2.2.2.2.1, nI_1, if_pos h63]
      have q3 := q2.place
      have hc3 := q3.on hc ⟨by dsimp only; have := hg.1; dsimp only at this; omega, by dsimp only; omega, fun _ => by dsimp only; omega⟩ rfl
      obtain ⟨σ2, y1, y2⟩ := CP.emit hc q3 (fun _ => by dsimp only; omega) 63
      dsimp only at y2
      rw [y1, Option.bind_some]
      have hc4 := y2.on hc ⟨by dsimp only; have := hg.1; dsimp only at this; omega, by dsimp only; omega, fun _ => by dsimp only; simp only [List.length_append, List.length_cons, List.length_nil]; omega⟩ rfl
      dsimp only at hc4
      obtain ⟨σ3, z1, z2⟩ := (pc_main (t := t) (L := L) 64).1 0 0 (p1 + 1) _ 64 σ2 (by omega) (by omega) (by omega) (by omega) hc4
      have hk := pj_g (t := t) (L := L) 64 0 0 (p1 + 1) (by omega)
      rw [show nI 0 = (0 : Int32) from rfl] at z1
      rw [z1, Option.bind_some]
      have z3 := y2.cat rfl z2
      dsimp only at z3
      obtain ⟨σ4, x1, x2⟩ := CP.emit hc z3 (fun z => by
        have := hk.2.2 z
        have := hk.2.1
        dsimp only
        simp only [List.length_append, List.length_cons, List.length_nil]
        omega) 59
      rw [x1]
      refine ⟨σ4, rfl, ?_⟩
      dsimp only at x2 ⊢
      rw [show cs ++ 63 :: ((pj (lt_ t L) 64 0 0 (p1 + 1)).2.2 ++ [59]) = cs ++ [63] ++ (pj (lt_ t L) 64 0 0 (p1 + 1)).2.2 ++ [59] by simp]
      exact x2
    · rw [if_neg h63, if_neg h63]
      obtain ⟨σ2, y1, y2⟩ := CP.emit hc q2 (fun _ => by dsimp only; omega) 59
      rw [y1]
      exact ⟨σ2, rfl, y2⟩
theorem pc_read {σ0 : ab_S} (h0 : CPs t L σ0 0 0) : ∀ (k F j : Nat) (r : PR) (σ : ab_S), j ≤ r.2.1 → L < r.2.1 + k → L < r.2.1 + F → 0 < k → 0 < F → CP σ0 σ 0 r → r.2.1 ≤ L → (r.1 = false → r.2.2.length ≤ r.2.1 + 1) →
    ∃ σ', fX8_read_b21 F (nI j) σ = some (if (prd (lt_ t L) k r).1 = true ∨ (prd (lt_ t L) k r).2.1 < L then nI (prd (lt_ t L) k r).2.1 else -1, σ') ∧ CP σ0 σ' 0 (prd (lt_ t L) k r) ∧ ((prd (lt_ t L) k r).1 = false → (prd (lt_ t L) k r).2.2.length ≤ 121) := by
  intro k
  induction k with
  | zero => intro F j r σ _ _ _ h; omega
  | succ k ih =>
    intro F j r σ h1 h2 h3 _ h4 hc hL2 hlen
    obtain ⟨F, rfl⟩ : ∃ f, F = f + 1 := ⟨F - 1, by omega⟩
    obtain ⟨w, p, cs⟩ := r
    have hL := h0.1
    show ∃ σ', fX8_read_b21_o (fX8_read_b21 F) (nI j) σ = _ ∧ _
    unfold fX8_read_b21_o prd
    have b63 : fX8_read_b63 σ = some (if w = true ∨ p < L then nI p else -1, σ) := by
      unfold fX8_read_b63 fX8_read_b81 fX8_read_b89
      cases w with
      | true => rw [hc.2.2.2.1 rfl, if_neg pu_10, if_pos (Or.inl rfl)]; exact congrArg some (congrArg (fun z => (z, σ)) hc.2.1)
      | false =>
        rw [(hc.2.2.2.2 rfl).1, if_pos rfl, mP_get hc.1 rfl, h0.2.1, hc.2.1]
        dsimp only at hL2 ⊢
        by_cases q : p < L
        · rw [if_neg (pu_nle q), if_pos (Or.inr q)]
        · rw [if_pos (pu_le (by omega)), if_neg (by simp; omega)]
    cases w with
    | true =>
      rw [if_pos rfl, hc.2.2.2.1 rfl, if_neg pu_10, b63]
      refine ⟨σ, ?_, hc, fun z => (by cases z)⟩
      by_cases q : (120 : Int32) ≤ nI j
      · rw [if_pos q]
      · rw [if_neg q]
    | false =>
      dsimp only at h1 h2 h3 hL2 hlen
      have hlen' := hlen rfl
      rw [if_neg Bool.false_ne_true, (hc.2.2.2.2 rfl).1, if_pos rfl]
      have lt := pc_letter (t := t) (L := L) (p := p) (σ := σ) hL (by rw [mP_get hc.1 rfl]; exact h0.2.1) (fun k hk => by rw [mP_get hc.1 rfl]; exact h0.2.2.1 k hk) hc.2.1 hL2
      rw [lt, Option.bind_some]
      by_cases h59 : lt_ t L p = 59
      · have hp := eq_lt h59 (by decide)
        rw [if_neg (pr_nle (b := 120) (by omega)), if_pos h59, if_pos h59, pu_k, hc.2.1, nI_1, nI_1]
        have q3 := hc.place
        have hc3 : CPs t L (ab_si σ 18 0 4 (nI (p + 1))) (p + 1) cs.length := by
          obtain ⟨u1, u2, -⟩ := hc.2.2.2.2 rfl
          refine ⟨hL, ?_, fun k hk => ?_, rfl, u1, ?_, by omega, by omega⟩
          · show σ.1 18 0 2 = _
            rw [mP_get hc.1 rfl]; exact h0.2.1
          · show σ.1 19 0 k = _
            rw [mP_get hc.1 rfl]; exact h0.2.2.1 k hk
          · show σ.1 18 0 3 = _
            rw [u2]
            dsimp only
            rw [Nat.zero_add]
        obtain ⟨σ1, y1, y2⟩ := pc_line hc3
        have hg := pln_g (t := t) (L := L) (p := p + 1) (by omega)
        rw [y1, Option.bind_some]
        have z3 := q3.cat rfl (r2 := pln (lt_ t L) (p + 1)) (σ2 := σ1) (by
          dsimp only
          rw [Nat.zero_add]
          exact y2)
        refine ih F (j + 1) _ σ1 ?_ ?_ ?_ ?_ ?_ z3 hg.2.1 (fun z => ?_)
        · have := hg.1; dsimp only; omega
        · have := hg.1; dsimp only; omega
        · have := hg.1; dsimp only; omega
        · have := hg.1; have := hg.2.1; omega
        · have := hg.1; have := hg.2.1; omega
        · have := hg.2.2 z
          dsimp only
          rw [List.length_append]
          omega
      · rw [if_neg h59, if_neg h59, b63]
        refine ⟨σ, ?_, hc, fun _ => by dsimp only; omega⟩
        by_cases q : (120 : Int32) ≤ nI j
        · rw [if_pos q]
        · rw [if_neg q]
theorem rd_c {σ : ab_S} (hL : L ≤ 120) (h2 : σ.1 18 0 2 = nI L) (hl : ∀ k, k < L → σ.1 19 0 k = t k) : ∃ σ', fX8_read σ = some (if (rd_ (lt_ t L)).1 = true ∨ (rd_ (lt_ t L)).2.1 < L then nI (rd_ (lt_ t L)).2.1 else -1, σ') ∧ mP σ' = mP σ ∧ ((rd_ (lt_ t L)).1 = false → σ'.1 18 0 3 = nI (rd_ (lt_ t L)).2.2.length ∧ (rd_ (lt_ t L)).2.2.length ≤ 121 ∧ ∀ i x, (rd_ (lt_ t L)).2.2[i]? = some x → σ'.1 20 0 i = x) := by
  have h0 : CPs t L (ab_si (ab_si (ab_si σ 18 0 4 0) 18 0 3 0) 18 0 5 0) 0 0 := ⟨hL, h2, hl, rfl, rfl, rfl, by omega, by omega⟩
  obtain ⟨σ1, y1, y2⟩ := pc_line h0
  have hg := pln_g (t := t) (L := L) (p := 0) (by omega)
  obtain ⟨σ2, z1, z2, z3⟩ := pc_read h0 1024 ab_N 0 (pln (lt_ t L) 0) σ1 (by omega) (by omega) (by rw [pu_N]; omega) (by omega) (by decide) y2 hg.2.1 (fun z => by have := hg.2.2 z; omega)
  unfold fX8_read
  rw [pu_k, pu_k, pu_k, y1, Option.bind_some, show (0 : Int32) = nI 0 from rfl]
  refine ⟨σ2, z1, z2.1.trans ((mP_si rfl).trans ((mP_si rfl).trans (mP_si rfl))), fun z => ?_⟩
  obtain ⟨u1, u2, u3, u4⟩ := z2.2.2.2.2 z
  refine ⟨?_, z3 z, fun i x hx => ?_⟩
  · rw [Nat.zero_add] at u2
    exact u2
  · have := u4 i x hx
    rw [Nat.zero_add] at this
    exact this
end
