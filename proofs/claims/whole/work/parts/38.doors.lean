/-! PURE, 8: back, doors -/
def ov (P : Nat → Nat → Bool) (σ X : ab_S) : ab_S := (fun r k i => if P r i = true then X.1 r k i else σ.1 r k i, σ.2)
theorem ov_eq {P : Nat → Nat → Bool} {σ X : ab_S} (h2 : X.2 = σ.2) (h : ∀ r k i, P r i = false → X.1 r k i = σ.1 r k i) : X = ov P σ X := by
  refine Prod.ext ?_ h2
  funext r k i
  show X.1 r k i = if P r i = true then X.1 r k i else σ.1 r k i
  by_cases q : P r i = true
  · rw [if_pos q]
  · rw [if_neg q]
    exact h r k i (by simpa using q)
theorem bs_age {i n n' : Nat} {σ σ' : ab_S} (h : R_bs i n σ) (e : Nat) (h1 : 1 ≤ e) (h6 : e ≤ 6) (ha : ∀ g, σ.1 1 0 6 = nI g → σ'.1 1 0 6 = nI (g + e)) (h34 : ∀ h, σ'.1 34 0 h = σ.1 34 0 h) : R_bs (i + 6) n' σ' := by
  obtain ⟨g, g0, g1, g2, g3⟩ := h
  refine ⟨g + e, by omega, by omega, ha g g2, fun k hk => ?_⟩
  obtain ⟨g', w1, w2, -⟩ := g3 k hk
  exact ⟨g', by omega, by rw [h34]; exact w2, fun q => by omega⟩
theorem fl_gL (c : Nat) : ∀ (k j fuel : Nat) (σ : ab_S), j + k = 750 → k < fuel → ∃ σ', fJ7_fill_031fb_b5 fuel c 0 (nI j) (Int32.ofNat 750) σ = some σ' ∧ σ'.2 = σ.2 ∧ (∀ a b e, ¬ (a = 26 ∧ b = c) → σ'.1 a b e = σ.1 a b e) ∧ (∀ e, e < j → σ'.1 26 c e = σ.1 26 c e) ∧ (∀ e, j ≤ e → e < 750 → σ'.1 26 c e = 0) := by
  intro k
  induction k with
  | zero =>
    intro j fuel σ h1 h2
    obtain ⟨f, rfl⟩ : ∃ f, fuel = f + 1 := ⟨fuel - 1, by omega⟩
    refine ⟨σ, ?_, rfl, fun a b e _ => rfl, fun e _ => rfl, fun e h3 h4 => by omega⟩
    show fJ7_fill_031fb_b5_o _ _ _ _ _ _ = _
    unfold fJ7_fill_031fb_b5_o
    rw [if_pos (show Int32.ofNat 750 ≤ nI j from pu_le (a := 750) (by omega))]
  | succ k ih =>
    intro j fuel σ h1 h2
    obtain ⟨f, rfl⟩ : ∃ f, fuel = f + 1 := ⟨fuel - 1, by omega⟩
    obtain ⟨σ', q1, q2, q3, q4, q5⟩ := ih (j + 1) f (ab_si σ 26 c j 0) (by omega) (by omega)
    refine ⟨σ', ?_, q2, fun a b e h => ?_, fun e h => ?_, fun e h3 h4 => ?_⟩
    · show fJ7_fill_031fb_b5_o _ _ _ _ _ _ = _
      unfold fJ7_fill_031fb_b5_o
      rw [if_neg (show ¬ Int32.ofNat 750 ≤ nI j from pu_nle (a := 750) (by omega)), if_pos (inb_nI (by omega)), cl_nI, pu_k, nI_1]
      exact q1
    · rw [q3 a b e h]
      exact if_neg (fun z => h ⟨z.1, z.2.1⟩)
    · rw [q4 e (by omega)]
      exact pu_siJ (by omega)
    · by_cases hej : e = j
      · subst hej
        rw [q4 e (by omega)]
        exact pu_siE
      · exact q5 e (by omega) h4
theorem fl_forget (c : Nat) (σ : ab_S) : ∃ σ', fX5_forget c σ = some σ' ∧ σ'.2 = σ.2 ∧ (∀ a b e, ¬ (a = 26 ∧ b = c) → σ'.1 a b e = σ.1 a b e) ∧ (∀ e, e < 750 → σ'.1 26 c e = 0) := by
  obtain ⟨σ', q1, q2, q3, -, q5⟩ := fl_gL c 750 0 ab_N σ (by omega) (by decide)
  refine ⟨σ', ?_, q2, q3, fun e he => q5 e (by omega) he⟩
  unfold fX5_forget fJ7_fill_031fb
  rw [show (0 : Int32) = nI 0 from rfl] at q1 ⊢
  rw [q1, Option.bind_some]
theorem fl_meet (c : Nat) (v : Int32) (σ : ab_S) : ∃ σ', fX5_meet c v σ = some σ' ∧ σ'.2 = σ.2 ∧ (∀ a b e, ¬ (a = 26 ∧ b = c) → ¬ (a = 23 ∧ b = c ∧ e = 6) → σ'.1 a b e = σ.1 a b e) ∧ σ'.1 23 c 6 = v ∧ (σ.1 23 c 5 = 0 ∨ ∀ e, e < 750 → σ'.1 26 c e = 0) := by
  unfold fX5_meet fX5_meet_b16
  rw [pu_k]
  have e5 : (ab_si σ 23 c 6 v).1 23 c 5 = σ.1 23 c 5 := pu_siJ (by omega)
  rw [e5]
  by_cases h : σ.1 23 c 5 = 0
  · rw [if_pos h]
    exact ⟨_, rfl, rfl, fun a b e _ h2 => if_neg h2, pu_siE, Or.inl h⟩
  · rw [if_neg h]
    obtain ⟨σ', q1, q2, q3, q4⟩ := fl_forget c (ab_si σ 23 c 6 v)
    refine ⟨σ', by rw [q1]; rfl, q2, fun a b e h1 h2 => ?_, ?_, Or.inr q4⟩
    · rw [q3 a b e h1]
      exact if_neg h2
    · rw [q3 23 c 6 (by omega)]
      exact pu_siE
theorem fl_laws (v : Int32) : ∀ (k j fuel : Nat) (σ : ab_S), σ.1 1 0 3 = v → j + k = 4 → k < fuel → ∃ σ', fX1_layLaws_b2 fuel (nI j) σ = some σ' ∧ σ'.2 = σ.2 ∧ (∀ a b e, a ≠ 26 → ¬ (a = 23 ∧ e = 6) → σ'.1 a b e = σ.1 a b e) ∧ (∀ b, b < j → σ'.1 23 b 6 = σ.1 23 b 6 ∧ σ'.1 26 b = σ.1 26 b) ∧ (∀ b, j ≤ b → b < 4 → σ'.1 23 b 6 = v ∧ (σ.1 23 b 5 = 0 ∨ ∀ e, e < 750 → σ'.1 26 b e = 0)) := by
  intro k
  induction k with
  | zero =>
    intro j fuel σ hv h1 h2
    obtain ⟨f, rfl⟩ : ∃ f, fuel = f + 1 := ⟨fuel - 1, by omega⟩
    refine ⟨σ, ?_, rfl, fun a b e _ _ => rfl, fun e _ => ⟨rfl, rfl⟩, fun e h3 h4 => by omega⟩
    show fX1_layLaws_b2_o _ _ _ = _
    unfold fX1_layLaws_b2_o
    rw [if_pos (pr_le (b := 4) (by omega))]
  | succ k ih =>
    intro j fuel σ hv h1 h2
    obtain ⟨f, rfl⟩ : ∃ f, fuel = f + 1 := ⟨fuel - 1, by omega⟩
    obtain ⟨σ1, p1, p2, p3, p4, p5⟩ := fl_meet j v σ
    obtain ⟨σ', q1, q2, q3, q4, q5⟩ := ih (j + 1) f σ1 (by rw [p3 1 0 3 (by omega) (by omega)]; exact hv) (by omega) (by omega)
    refine ⟨σ', ?_, by rw [q2, p2], fun a b e h1 h2 => ?_, fun b hb => ?_, fun b h3 h4 => ?_⟩
    · show fX1_layLaws_b2_o _ _ _ = _
      unfold fX1_layLaws_b2_o
      rw [if_neg (pr_nle (b := 4) (by omega)), if_pos (inb_nI (by omega)), cl_nI, hv, p1, Option.bind_some, nI_1]
      exact q1
    · rw [q3 a b e h1 h2]
      exact p3 a b e (by omega) (by omega)
    · obtain ⟨w1, w2⟩ := q4 b (by omega)
      rw [w1, w2]
      refine ⟨p3 23 b 6 (by omega) (by omega), ?_⟩
      funext e
      exact p3 26 b e (by omega) (by omega)
    · by_cases hbj : b = j
      · subst hbj
        obtain ⟨w1, w2⟩ := q4 b (by omega)
        rw [w1, w2]
        exact ⟨p4, p5⟩
      · obtain ⟨w1, w2⟩ := q5 b (by omega) h4
        refine ⟨w1, ?_⟩
        rw [← p3 23 b 5 (by omega) (by omega)]
        exact w2
theorem seat_lt {a r c d x : Nat} (ha : a < 3) (hr : r ≤ a) (hc : c < 5) (hd : d < 5) (hx : x < 5) : seat a r c d x < 750 := by
  unfold seat
  have : a * (a + 1) / 2 ≤ 3 := by
    rcases (show a = 0 ∨ a = 1 ∨ a = 2 by omega) with rfl | rfl | rfl <;> decide
  omega
section
variable {i : Nat} {σc σm : ab_S}
theorem pp_doors (h : Rel i σc σm) (hi : i ≤ 3072) (a0 : Int32) : ∃ (r : Int32) (σc1 : ab_S) (σm1 : ab_S), fX9_doors a0 σc = some (r, σc1) ∧ fX10_doors a0 σm = some (r, σm1) ∧ Rel (i + 6) σc1 σm1 := by
  have h0 := Rel_mono h
  obtain ⟨n, b, n2, n5, hst, hev, him, hch, htp, hlw, hgv, hbs, hbd, hsh⟩ := h
  unfold fX9_doors fX10_doors fX9_doors_b10
  rcases pu_rng a0 2 5 with hx | ⟨N, hN2, hN5, rfl⟩
  · refine ⟨-1, σc, σm, ?_, ?_, h0⟩
    · by_cases h1 : a0 < 2
      · rw [if_pos h1]
      · rw [if_neg h1, if_neg (fun q => by
          have := pu_rgI hx
          rw [Int32.lt_iff_toInt_lt, show (2 : Int32).toInt = 2 from rfl] at h1
          rw [Int32.le_iff_toInt_le, show (5 : Int32).toInt = 5 from rfl] at q
          omega)]
    · rw [show fX10_within a0.toInt64 2 5 = some 0 from pu_wi_no (lo := 2) (hi := 5) hx]; rfl
  · rw [if_neg (pl_nlt (b := 2) hN2), if_pos (pl_le (b := 5) hN5), show fX10_within (nI N).toInt64 2 5 = some 1 from pu_wi_yes (lo := 2) (hi := 5) hN2 hN5, Option.bind_some, if_neg pu_10, hst.1, hst.2.1]
    have l1 : ∃ v, fX7_lay (nI N) σc = some (ab_si (ab_si (ab_si (ab_si (ab_si (ab_si (ab_si (ab_si (ab_si (ab_si (ab_si (ab_si σc 1 0 3 (nI N)) 2 0 0 1) 2 0 1 1) 2 0 2 1) 2 0 3 1) 2 0 4 1) 3 0 0 0) 3 0 1 0) 3 0 2 0) 3 0 3 0) 3 0 4 0) 1 0 6 v) ∧ v = σc.1 1 0 6 + 1 := ⟨_, rfl, rfl⟩
    obtain ⟨v, l1, hv⟩ := l1
    rw [l1, Option.bind_some]
    obtain ⟨σ1, q1, q2, q3, -, q5⟩ := fl_laws (nI N) 4 0 ab_N (ab_si (ab_si (ab_si (ab_si (ab_si (ab_si (ab_si (ab_si (ab_si (ab_si (ab_si (ab_si σc 1 0 3 (nI N)) 2 0 0 1) 2 0 1 1) 2 0 2 1) 2 0 3 1) 2 0 4 1) 3 0 0 0) 3 0 1 0) 3 0 2 0) 3 0 3 0) 3 0 4 0) 1 0 6 v) rfl (by omega) (by decide)
    unfold fX1_layLaws
    rw [show nI 0 = (0 : Int32) from rfl] at q1
    rw [q1, Option.bind_some]
    have e1 := ov_eq (P := fun r i => decide (r = 26) || (decide (r = 23) && decide (i = 6))) q2 (fun r k i hP => q3 r k i (by intro z; subst z; simp at hP) (by rintro ⟨rfl, rfl⟩; simp at hP))
    clear q1 q2 q3
    rw [e1]
    refine ⟨nI n, _, _, rfl, rfl, N, b, hN2, hN5, ⟨rfl, rfl, fun d hd => ?_, fun d hd => ?_, hst.2.2.2.2⟩, ⟨⟨0, 0, by omega, by omega, rfl, rfl, rfl, rfl, rfl, fun a ha => by omega⟩, hev.2⟩, ?_, ⟨0, 0, by omega, by omega, rfl, rfl, rfl, rfl, fun k hk => by omega⟩, htp, fun h hh => ?_, fun h hh => ?_, ?_, hbd, hsh⟩
    · rcases (show d = 0 ∨ d = 1 ∨ d = 2 ∨ d = 3 ∨ d = 4 by omega) with rfl | rfl | rfl | rfl | rfl <;> exact ⟨⟨1, by omega, rfl⟩, rfl⟩
    · rcases (show d = 0 ∨ d = 1 ∨ d = 2 ∨ d = 3 ∨ d = 4 by omega) with rfl | rfl | rfl | rfl | rfl <;> exact ⟨⟨0, by omega, rfl⟩, rfl⟩
    · obtain ⟨k, hk, e1, e2⟩ := him
      refine ⟨k + 1, by omega, ?_, Or.inl ⟨rfl, ?_⟩⟩
      · show σm.1 0 0 7 + 1 = _
        rw [e1, nI_1]
      · rcases e2 with ⟨-, e2 | ⟨e2, k', hk', e3⟩⟩ | ⟨-, e2, e3, -⟩
        · exact Or.inl e2
        · exact Or.inr ⟨e2, k', by omega, e3⟩
        · exact Or.inr ⟨e2, k, by omega, e3⟩
    · obtain ⟨w1, w2⟩ := q5 h (by omega) hh
      refine ⟨w1, ?_⟩
      rcases (hlw h hh).2 with w | w
      · exact Or.inl w
      · exact Or.inr w
    · obtain ⟨w1, w2⟩ := q5 h (by omega) hh
      rcases w2 with w2 | w2
      · exact Or.inl w2
      · refine Or.inr (fun a r c d x ha hr hc hd hx => Or.inl ?_)
        exact w2 _ (seat_lt ha hr hc hd hx)
    · refine bs_age hbs 1 (by omega) (by omega) (fun g hg => ?_) (fun h => rfl)
      show v = _
      rw [hv, hg, nI_1]
theorem pp_back (h : Rel i σc σm) (hi : i ≤ 3072) : ∃ (r : Int32) (σc1 : ab_S) (σm1 : ab_S), fX9_back σc = some (r, σc1) ∧ fX10_back σm = some (r, σm1) ∧ Rel (i + 6) σc1 σm1 := by
  have h0 := Rel_mono h
  obtain ⟨n, b, n2, n5, hst, hev, him, hch, htp, hlw, hgv, hbs, hbd, hsh⟩ := h
  obtain ⟨k, hk, e1, him⟩ := id him
  unfold fX9_back fX10_back fX10_back_b18
  rcases him with ⟨e2, e3⟩ | ⟨e2, e3, e4, hE, hL⟩
  · rw [e2, if_pos (show (0 : Int32) = 0 from rfl)]
    refine ⟨-5, σc, σm, rfl, ?_, h0⟩
    rcases e3 with e3 | ⟨e3, k', hk', e4⟩
    · rw [e3, if_pos rfl]
    · rw [e3, if_neg pu_10, e4, e1, if_neg (pu_ne (by omega))]
  · rw [e2, if_neg pu_10, e3, if_neg pu_10, e4, e1, if_pos rfl]
    obtain ⟨t, c, ht, hc, q1, q2, q3, q4, q5, hh⟩ := id hE
    refine ⟨nI t, ?σc1, ?σm1, ?C, ?M, ?R⟩
    case σc1 => exact ab_si (ab_si (ab_si (ab_ci (ab_ci (ab_ci σc 10 0 0 6 0 0 3) 11 0 0 7 0 0 3) 12 0 0 8 0 0 3) 5 0 3 (σc.1 9 0 3)) 5 0 4 (σc.1 9 0 4)) 5 0 5 (σc.1 9 0 5)
    case σm1 =>
      exact ab_si (ab_si (ab_si (ab_si (ab_si (ab_si (ab_si (ab_si (ab_si (ab_si (ab_si σm 0 0 8 (σm.1 0 0 30)) 0 0 9 (σm.1 0 0 31)) 5 0 0 (σm.1 15 0 0)) 6 0 0 (σm.1 16 0 0)) 14 0 0 (σm.1 17 0 0)) 5 0 1 (σm.1 15 0 1)) 6 0 1 (σm.1 16 0 1)) 14 0 1 (σm.1 17 0 1)) 5 0 2 (σm.1 15 0 2)) 6 0 2 (σm.1 16 0 2)) 14 0 2 (σm.1 17 0 2)
    case C =>
      unfold fX4_become_r5_9
      rw [← q1]
      rfl
    case M =>
      rw [← q2]
      rfl
    case R =>
      refine ⟨n, b, n2, n5, hst, ⟨⟨t, c, ht, hc, q1, q2, q3, q4, ?_, fun a ha => ?_⟩, hL⟩, ⟨k, by omega, e1, Or.inr ⟨e2, e3, e4, hE, hL⟩⟩, hch, htp, hlw, hgv, R_bs_mono hbs, hbd, hsh⟩
      · show σc.1 9 0 5 = _
        rw [q5]
        congr 1
        refine opN_congr t (fun a ha => ?_)
        rcases (show a = 0 ∨ a = 1 ∨ a = 2 by omega) with rfl | rfl | rfl <;> rfl
      · have := hh a ha
        rcases (show a = 0 ∨ a = 1 ∨ a = 2 by omega) with rfl | rfl | rfl
        · exact this
        · refine ⟨this.1, this.2.1, this.2.2.1, ?_⟩
          rcases this.2.2.2 with z | ⟨d, z1, z2, z3, z4⟩
          · exact Or.inl z
          · exact Or.inr ⟨d, z1, z2, z3, z4⟩
        · refine ⟨this.1, this.2.1, this.2.2.1, ?_⟩
          rcases this.2.2.2 with z | ⟨d, z1, z2, z3, z4⟩
          · exact Or.inl z
          · exact Or.inr ⟨d, z1, z2, z3, z4⟩
end
