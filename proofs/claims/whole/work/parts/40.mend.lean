/-! PURE, 10: mend, weights -/
section
variable {i : Nat} {σc σm : ab_S}
theorem mend_core (h : Rel i σc σm) {n b : Nat} (n2 : 2 ≤ n) (n5 : n ≤ 5) (hst : R_st n σc σm) (hev : R_ev n σc σm) (him : R_im i n σc σm) (hch : R_ch n σc σm) (htp : R_tp σc σm) (hlw : R_lw n σc σm) (hgv : R_gv σc) (hbs : R_bs i n σc) (hbd : R_bd b σc σm) (hsh : R_sh b σc σm) {num what was v at_ : Int32} (ht : fX7_told num what σc = some was) (hat : ab_inb at_ 7 = true) (hw : σm.1 1 0 at_.toNatClampNeg = was) (hE : ChE n num what was v at_ was v) :
    ∃ (r : Int32) (σc1 σm1 : ab_S), ((fX7_told num what σc).bind fun q3 => (if q3 = v then fX9_mend_b51 q3 σc else (fX2_add num what q3 v σc).bind fun q5 => (fX7_tell num what v q5).bind fun q6 => fX9_mend_b51 q3 q6)) = some (r, σc1) ∧ fX10_becomes at_ v σm = some (r, σm1) ∧ Rel (i + 6) σc1 σm1 := by
  rw [ht, Option.bind_some]
  unfold fX9_mend_b51
  by_cases hv : was = v
  · rw [if_pos hv]
    refine ⟨was, σc, σm, rfl, ?_, Rel_mono h⟩
    unfold fX10_becomes
    rw [if_pos hat, if_pos (hw.trans hv), hw]
  · rw [if_neg hv]
    obtain ⟨d, a, hda, ha, c1, c2, c3, c4, hEE⟩ := id hch
    obtain ⟨X, x1, e, o, x2, x3, x4, x5, x6, x7, x8, x9, x10, x11⟩ := ad_c (σc := σc) (d := d) (by omega) c1 num what was v
    obtain ⟨Y, y1, e', o', y2, y3, y4, y5, y6, y7, y8, y9, y10⟩ := ad_m (σm := σm) (d := d) (by omega) c3 at_ v hat (by rw [hw]; exact hv)
    have he : e' = e ∧ o' = o := by
      by_cases h40 : d < 40
      · have := x3 h40
        have := y3 h40
        omega
      · have := x4 (by omega)
        have := y4 (by omega)
        omega
    obtain ⟨rfl, rfl⟩ := he
    rw [hw] at y1 y8
    rw [x1, y1, Option.bind_some]
    obtain ⟨Z, z1, -, z3, z4⟩ := tl_x (σc := ov (fun r _ => decide (13 ≤ r) && decide (r ≤ 17)) σc X) (σm := ov (fun r j => (decide (2 ≤ r) && decide (r ≤ 4)) || (decide (r = 0) && (decide (j = 4) || decide (j = 5)))) σm Y) (num := num) (what := what) (v := v) hst hbs n5 hE (Or.inr rfl)
    rw [z1, Option.bind_some]
    refine ⟨was, _, _, rfl, rfl, n, b, n2, n5, z3, hev, R_im_mono him, ⟨e' + 1, e' + 1, by omega, by omega, x5, x6, y5, y6, fun k hk => ?_⟩, htp, hlw, hgv, z4, hbd, hsh⟩
    show ChE n (X.1 14 0 k) (X.1 15 0 k) (X.1 16 0 k) (X.1 17 0 k) (Y.1 2 0 k) (Y.1 3 0 k) (Y.1 4 0 k)
    by_cases hke : k = e'
    · subst hke
      rw [x7, x8, x9, x10, y7, y8, y9]
      exact hE
    · obtain ⟨u1, u2, u3, u4⟩ := x11 k (by omega)
      obtain ⟨w1, w2, w3⟩ := y10 k (by omega)
      rw [u1, u2, u3, u4, w1, w2, w3]
      refine hEE (k + o') ?_
      by_cases h40 : d < 40
      · have := x3 h40
        omega
      · have := x4 (by omega)
        omega
theorem pp_mend (h : Rel i σc σm) (hi : i ≤ 3072) (a0 : Int32) (a1 : Int32) (a2 : Int32) : ∃ (r : Int32) (σc1 : ab_S) (σm1 : ab_S), fX9_mend a0 a1 a2 σc = some (r, σc1) ∧ fX10_mend a0 a1 a2 σm = some (r, σm1) ∧ Rel (i + 6) σc1 σm1 := by
  have h0 := Rel_mono h
  have hh := h
  obtain ⟨n, b, n2, n5, hst, hev, him, hch, htp, hlw, hgv, hbs, hbd, hsh⟩ := h
  obtain ⟨s1, s2, s3, s4, s5, s6, s7⟩ := id hst
  unfold fX9_mend fX9_mayMend fX10_mend fX10_mend_b58 fX10_mend_b59 fX10_mend_b85 fX10_mend_b86 fX10_mend_b113 fX10_mend_b114 fX9_mayMend_b26 fX9_mayMend_b27 fX9_mayMend_b52 fX9_mayMend_b53 fX9_mayMend_b73 fX9_mayMend_b74
  by_cases w0 : a1 = 0
  · subst w0
    rw [if_pos rfl, if_pos rfl]
    rcases pu_ix a0 n (by omega) with hx | ⟨d, hd, rfl⟩
    · rw [pu_has_no s1 hx, pu_isDoor_no s2 hx (by omega)]
      exact ⟨-1, σc, σm, rfl, rfl, h0⟩
    rw [pu_has_yes s1 hd, pu_isDoor_yes s2 hd, Option.bind_some, Option.bind_some, if_neg pu_10, if_neg pu_10]
    rcases pu_rng a2 0 12 with hv | ⟨v, v0, v12, rfl⟩
    · rw [pu_isWeight_no hv, show fX10_within a2.toInt64 0 12 = some 0 from pu_wi_no (lo := 0) (hi := 12) hv]
      exact ⟨-1, σc, σm, rfl, rfl, h0⟩
    rw [pu_isWeight_yes v12, show fX10_within (nI v).toInt64 0 12 = some 1 from pu_wi_yes (lo := 0) (hi := 12) v0 v12, Option.bind_some, Option.bind_some, if_neg pu_10, if_neg pu_10, if_pos isb1, Option.bind_some, if_neg pu_10]
    obtain ⟨r, σ1, σ2, q1, q2, q3⟩ := mend_core hh n2 n5 hst hev him hch htp hlw hgv hbs hbd hsh (num := nI d) (what := 0) (was := σc.1 2 0 d) (v := nI v) (at_ := nI d) (pu_told0 s1 hd n5) (inb_nI (by omega)) (by rw [cl_nI]; exact (s3 d (by omega)).2) ⟨rfl, rfl, Or.inl ⟨rfl, rfl, ⟨d, hd, rfl⟩, (s3 d (by omega)).1, ⟨v, by omega, rfl⟩⟩⟩
    exact ⟨r, σ1, σ2, q1, by rw [q2]; rfl, q3⟩
  rw [if_neg w0, if_neg w0]
  by_cases w1 : a1 = 1
  · subst w1
    rw [if_pos rfl, if_pos rfl]
    by_cases n0 : a0 = 0
    · subst n0
      rw [if_pos rfl, if_pos rfl]
      rcases pu_ix a2 4 (by omega) with hv | ⟨v, hv, rfl⟩
      · refine ⟨-1, σc, σm, ?_, ?_, h0⟩
        · by_cases h1 : a2 < 0
          · rw [if_pos h1]; rfl
          · rw [if_neg h1, if_pos (show (4 : Int32) ≤ a2 from hv.resolve_left h1)]; rfl
        · rw [show fX10_within a2.toInt64 0 3 = some 0 from pu_wi_no (lo := 0) (hi := 3) (pu_ixr hv)]; rfl
      · rw [if_neg pu_n1l, if_neg (pr_nle (b := 4) hv), if_pos isb1, show fX10_within (nI v).toInt64 0 3 = some 1 from pu_wi_yes (lo := 0) (hi := 3) (by omega) (by omega), Option.bind_some, Option.bind_some, if_neg pu_10, if_neg pu_10]
        obtain ⟨r, σ1, σ2, q1, q2, q3⟩ := mend_core hh n2 n5 hst hev him hch htp hlw hgv hbs hbd hsh (num := 0) (what := 1) (was := σc.1 1 0 4) (v := nI v) (at_ := 5) rfl rfl s5.2 ⟨rfl, rfl, Or.inr (Or.inl ⟨rfl, rfl, s5.1, ⟨v, by omega, rfl⟩⟩)⟩
        exact ⟨r, σ1, σ2, q1, by rw [q2]; rfl, q3⟩
    · rw [if_neg n0, if_neg n0]
      exact ⟨-1, σc, σm, rfl, rfl, h0⟩
  rw [if_neg w1, if_neg w1]
  by_cases w2 : a1 = 2
  · subst w2
    rw [if_pos rfl, if_pos rfl]
    by_cases n0 : a0 = 0
    · subst n0
      rw [if_pos rfl, if_pos rfl]
      rcases pu_rng a2 1 3 with hv | ⟨v, v1, v3, rfl⟩
      · refine ⟨-1, σc, σm, ?_, ?_, h0⟩
        · by_cases h1 : a2 < 1
          · rw [if_pos h1]; rfl
          · rw [if_neg h1, if_pos (show (3 : Int32) < a2 from hv.resolve_left h1)]; rfl
        · rw [show fX10_within a2.toInt64 1 3 = some 0 from pu_wi_no (lo := 1) (hi := 3) hv]; rfl
      · rw [if_neg (pl_nlt (b := 1) v1), if_neg (pr_nlt (b := 3) v3), if_pos isb1, show fX10_within (nI v).toInt64 1 3 = some 1 from pu_wi_yes (lo := 1) (hi := 3) (by omega) (by omega), Option.bind_some, Option.bind_some, if_neg pu_10, if_neg pu_10]
        obtain ⟨r, σ1, σ2, q1, q2, q3⟩ := mend_core hh n2 n5 hst hev him hch htp hlw hgv hbs hbd hsh (num := 0) (what := 2) (was := σc.1 1 0 5) (v := nI v) (at_ := 6) rfl rfl s7 ⟨rfl, rfl, Or.inr (Or.inr ⟨rfl, rfl, s6, ⟨v, by omega, by omega, rfl⟩⟩)⟩
        exact ⟨r, σ1, σ2, q1, by rw [q2]; rfl, q3⟩
    · rw [if_neg n0, if_neg n0]
      exact ⟨-1, σc, σm, rfl, rfl, h0⟩
  rw [if_neg w2, if_neg w2]
  refine ⟨-1, σc, σm, ?_, rfl, h0⟩
  by_cases n0 : a0 = 0
  · rw [if_pos n0]; rfl
  · rw [if_neg n0]; rfl
end
def wP : Nat → Nat → Bool := fun r j => decide (r = 2) || (decide (r = 1) && decide (j = 6))
def wQ : Nat → Nat → Bool := fun r j => decide (r = 1) && decide (j < 5)
theorem wt_L {n d m p N : Nat} {σc σm : ab_S} (n2 : 2 ≤ n) (n5 : n ≤ 5) (hd : d < 6) (hm : m ≤ 60) (hp : p < 2 ^ 31) (hN : N ≤ 5) (hval : ∀ j, j < 60 → σm.2 22 0 (60 * d + j) = σc.2 43 d j ∧ ∃ y : Int32, σc.2 43 d j = y.toInt64) :
    ∀ (k j fC fM : Nat) (C M : ab_S), j + k = N → k < fC → k + 1 < fM → C.1 1 0 3 = nI n → C.1 40 0 d = nI 0 → C.1 41 0 d = nI m → C.2 = σc.2 → M.1 0 0 6 = nI n → M.1 21 0 d = nI m → M.2 = σm.2 → (∀ d, d < 5 → isN 13 (C.1 2 0 d) ∧ M.1 1 0 d = C.1 2 0 d) →
    ∃ (r : Int32) (X Y : ab_S) (e : Nat), fX9_weights_b56 fC (nI d) (nI p) (nI N) (nI j) (nI j) C = some (r, ov wP C X) ∧ fX10_weights_b69 fM (nI d) (nI p) (nI N) (nI j) 1 M = some (r, ov wQ M Y) ∧ (∀ d, d < 5 → isN 13 (X.1 2 0 d) ∧ Y.1 1 0 d = X.1 2 0 d) ∧ e ≤ k ∧ (∀ g, C.1 1 0 6 = nI g → X.1 1 0 6 = nI (g + e)) ∧ (e = 0 → ov wP C X = C) := by
  have stop : ∀ (f j : Nat) (M : ab_S), fX10_weights_b69 (f + 1) (nI d) (nI p) (nI N) (nI j) 0 M = some (nI j, M) := fun f j M => rfl
  have selfC : ∀ C : ab_S, ov wP C C = C := fun C => (ov_eq rfl (fun _ _ _ _ => rfl)).symm
  have selfM : ∀ C : ab_S, ov wQ C C = C := fun C => (ov_eq rfl (fun _ _ _ _ => rfl)).symm
  intro k
  induction k with
  | zero =>
    intro j fC fM C M h1 h2 h3 c1 c2 c3 c4 m1 m2 m3 hw
    obtain ⟨fC, rfl⟩ : ∃ f, fC = f + 1 := ⟨fC - 1, by omega⟩
    obtain ⟨fM, rfl⟩ : ∃ f, fM = f + 1 := ⟨fM - 1, by omega⟩
    refine ⟨nI j, C, M, 0, ?_, ?_, hw, by omega, fun g hg => hg, fun _ => selfC C⟩
    · show fX9_weights_b56_o _ _ _ _ _ _ _ = _
      unfold fX9_weights_b56_o fX9_weights_b139
      rw [if_pos (pu_le (by omega)), selfC]
    · show fX10_weights_b69_o _ _ _ _ _ _ _ = _
      unfold fX10_weights_b69_o fX10_weights_b169
      rw [if_neg pu_10, if_pos (pu_le (by omega)), selfM]
  | succ k ih =>
    intro j fC fM C M h1 h2 h3 c1 c2 c3 c4 m1 m2 m3 hw
    obtain ⟨fC, rfl⟩ : ∃ f, fC = f + 1 := ⟨fC - 1, by omega⟩
    obtain ⟨fM, rfl⟩ : ∃ f, fM = f + 1 + 1 := ⟨fM - 2, by omega⟩
    have uC : fX9_weights_b56 (fC + 1) (nI d) (nI p) (nI N) (nI j) (nI j) C = fX9_weights_b56_o (fX9_weights_b56 fC) (nI d) (nI p) (nI N) (nI j) (nI j) C := rfl
    have uM : fX10_weights_b69 (fM + 1 + 1) (nI d) (nI p) (nI N) (nI j) 1 M = fX10_weights_b69_o (fX10_weights_b69 (fM + 1)) (nI d) (nI p) (nI N) (nI j) 1 M := rfl
    rw [uC, uM]
    unfold fX9_weights_b56_o fX9_weights_b139 fX10_weights_b69_o fX10_weights_b133 fX10_weights_b134
    rw [if_neg (pu_nle (by omega)), if_neg pu_10, if_neg (pu_nle (by omega)), if_pos (inb_nI hd), cl_nI (d := d) (by omega), m2]
    have ends : ∃ (r : Int32) (X Y : ab_S) (e : Nat), some (nI j, C) = some (r, ov wP C X) ∧ (if (0 : Int32) = 0 then fX10_weights_b69 (fM + 1) (nI d) (nI p) (nI N) (nI j) 0 M else none) = some (r, ov wQ M Y) ∧ (∀ d, d < 5 → isN 13 (X.1 2 0 d) ∧ Y.1 1 0 d = X.1 2 0 d) ∧ e ≤ k + 1 ∧ (∀ g, C.1 1 0 6 = nI g → X.1 1 0 6 = nI (g + e)) ∧ (e = 0 → ov wP C X = C) :=
      ⟨nI j, C, M, 0, by rw [selfC], by rw [if_pos rfl, stop, selfM], hw, by omega, fun g hg => hg, fun _ => selfC C⟩
    have sub : (nI m - 1 - nI j).toInt = (m : Int) - 1 - j := by
      rw [Int32.toInt_sub, show nI m - 1 = nI m - nI 1 from rfl, pk_sub_toInt (by omega) (by omega), nI_toInt (by omega)]
      exact Int.bmod_eq_of_le (by omega) (by omega)
    have len := sh_len hd c2 (by omega) c3
    have pl := sh_pl len hm (nI p) (nI (j + 1))
    rw [nI_toInt hp, nI_toInt (by omega)] at pl
    rcases Nat.lt_or_ge j n with hjn | hjn
    · rw [pu_has_yes c1 hjn, Option.bind_some, if_neg pu_10, nI_1, pl]
      by_cases g1 : p + (j + 1) ≤ m
      · rw [if_pos (show 0 ≤ (p : Int) ∧ 0 ≤ ((j + 1 : Nat) : Int) ∧ (p : Int) + ((j + 1 : Nat) : Int) ≤ (m : Int) by omega), Option.bind_some, if_neg pu_10, nI_add, sh_at hd c2 (by omega) c3 hm (show p + j < m by omega), Option.bind_some, if_neg (fun z => by rw [Int32.lt_iff_toInt_lt, sub, nI_toInt hp] at z; omega), pu_isDoor_yes m1 hjn, Option.bind_some, if_neg pu_10, pu_60, nI_add, if_pos (inb_nI (show 60 * d + p + j < 360 by omega)), cl_nI (d := 60 * d + p + j) (by omega), c4, m3, show 60 * d + p + j = 60 * d + (p + j) by omega]
        obtain ⟨v1, y, v2⟩ := hval (p + j) (by omega)
        rw [v1, v2, lg_l2i_i2l]
        rcases pu_rng y 0 12 with hy | ⟨w, w0, w12, rfl⟩
        · rw [pu_isWeight_no hy, show fX10_within y.toInt64 0 12 = some 0 from pu_wi_no (lo := 0) (hi := 12) hy]
          exact ends
        · rw [pu_isWeight_yes w12, show fX10_within (nI w).toInt64 0 12 = some 1 from pu_wi_yes (lo := 0) (hi := 12) w0 w12]
          unfold fX7_weigh
          rw [pu_has_yes c1 hjn]
          simp only [Option.bind_some, pu_10, ↓reduceIte, inb_nI (show j < 5 by omega), inb_nI (show j < 7 by omega), inb_nI (show 60 * d + (p + j) < 360 by omega), cl_nI (d := j) (by omega), pu_k]
          have r6 : (ab_si C 2 0 j (nI w)).1 1 0 6 = C.1 1 0 6 := rfl
          rw [r6]
          obtain ⟨r, X, Y, e, q1, q2, q3, q4, q5, -⟩ := ih (j + 1) fC (fM + 1) (ab_si (ab_si C 2 0 j (nI w)) 1 0 6 (C.1 1 0 6 + 1)) (ab_si M 1 0 j (nI w)) (by omega) (by omega) (by omega) c1 c2 c3 c4 m1 m2 m3 (fun d' hd' => by
            show isN 13 ((ab_si C 2 0 j (nI w)).1 2 0 d') ∧ (ab_si M 1 0 j (nI w)).1 1 0 d' = (ab_si C 2 0 j (nI w)).1 2 0 d'
            by_cases hdj : d' = j
            · subst hdj
              rw [pu_siE, pu_siE]
              exact ⟨⟨w, by omega, rfl⟩, rfl⟩
            · rw [pu_siJ hdj, pu_siJ hdj]
              exact hw d' hd')
          have oC : ov wP (ab_si (ab_si C 2 0 j (nI w)) 1 0 6 (C.1 1 0 6 + 1)) X = ov wP C X := by
            refine Prod.ext ?_ rfl
            funext r k i
            show (if wP r i = true then X.1 r k i else if r = 1 ∧ k = 0 ∧ i = 6 then _ else if r = 2 ∧ k = 0 ∧ i = j then _ else C.1 r k i) = (if wP r i = true then X.1 r k i else C.1 r k i)
            by_cases hP : wP r i = true
            · rw [if_pos hP, if_pos hP]
            · rw [if_neg hP, if_neg hP, if_neg (by rintro ⟨rfl, -, rfl⟩; exact hP rfl), if_neg (by rintro ⟨rfl, -, -⟩; exact hP rfl)]
          have oM : ov wQ (ab_si M 1 0 j (nI w)) Y = ov wQ M Y := by
            refine Prod.ext ?_ rfl
            funext r k i
            show (if wQ r i = true then Y.1 r k i else if r = 1 ∧ k = 0 ∧ i = j then _ else M.1 r k i) = (if wQ r i = true then Y.1 r k i else M.1 r k i)
            by_cases hP : wQ r i = true
            · rw [if_pos hP, if_pos hP]
            · rw [if_neg hP, if_neg hP, if_neg (by rintro ⟨rfl, -, rfl⟩; exact hP (by simp [wQ]; omega))]
          rw [oC] at q1
          rw [oM] at q2
          refine ⟨r, X, Y, e + 1, q1, q2, q3, by omega, fun g hg => ?_, fun h => by omega⟩
          rw [q5 (g + 1) (by show C.1 1 0 6 + 1 = _; rw [hg, nI_1])]
          congr 1
          omega
      · rw [if_neg (show ¬ (0 ≤ (p : Int) ∧ 0 ≤ ((j + 1 : Nat) : Int) ∧ (p : Int) + ((j + 1 : Nat) : Int) ≤ (m : Int)) by omega), if_pos (show nI m - 1 - nI j < nI p by rw [Int32.lt_iff_toInt_lt, sub, nI_toInt hp]; omega)]
        exact ends
    · rw [pu_has_no c1 (Or.inr (pu_le hjn)), Option.bind_some, if_pos (show (0 : Int32) = 0 from rfl)]
      by_cases g1 : nI m - 1 - nI j < nI p
      · rw [if_pos g1]
        exact ends
      · rw [if_neg g1, pu_isDoor_no m1 (Or.inr (pu_le hjn)) (by omega), Option.bind_some, if_pos (show (0 : Int32) = 0 from rfl)]
        exact ends
section
variable {i : Nat} {σc σm : ab_S}
theorem pp_weights (h : Rel i σc σm) (hi : i ≤ 3072) (a0 : Int32) (a1 : Int32) (a2 : Int32) : ∃ (r : Int32) (σc1 : ab_S) (σm1 : ab_S), fX9_weights a0 a1 a2 σc = some (r, σc1) ∧ fX10_weights a0 a1 a2 σm = some (r, σm1) ∧ Rel (i + 6) σc1 σm1 := by
  have h0 := Rel_mono h
  obtain ⟨n, b, n2, n5, hst, hev, him, hch, htp, hlw, hgv, hbs, hbd, hsh⟩ := h
  unfold fX9_weights fX10_weights fX9_weights_b21 fX10_weights_b19
  rcases pu_ix a0 6 (by omega) with hx | ⟨d, hd, rfl⟩
  · rw [pu_hasS_no hx, pu_isShelf_no hx]
    exact ⟨-1, σc, σm, rfl, rfl, h0⟩
  rw [pu_hasS_yes hd, pu_isShelf_yes hd, Option.bind_some, Option.bind_some, if_neg pu_10, if_neg pu_10]
  rcases pu_rng a2 1 5 with hv | ⟨N, N1, N5, rfl⟩
  · refine ⟨-1, σc, σm, ?_, ?_, h0⟩
    · by_cases h1 : a2 < 1
      · rw [if_pos h1]
      · rw [if_neg h1, if_neg (fun q => by
          have := pu_rgI hv
          rw [Int32.lt_iff_toInt_lt, show (1 : Int32).toInt = 1 from rfl] at h1
          rw [Int32.le_iff_toInt_le, show (5 : Int32).toInt = 5 from rfl] at q
          omega)]
    · rw [show fX10_within a2.toInt64 1 5 = some 0 from pu_wi_no (lo := 1) (hi := 5) hv]; rfl
  rw [if_neg (pl_nlt (b := 1) N1), if_pos (pl_le (b := 5) N5), show fX10_within (nI N).toInt64 1 5 = some 1 from pu_wi_yes (lo := 1) (hi := 5) N1 N5, Option.bind_some, if_neg pu_10, if_pos (inb_nI hd), cl_nI (d := d) (by omega)]
  unfold fX10_weights_b44 fX10_weights_b66 fX10_weights_b67
  have stop : ∀ (f : Nat) (M : ab_S), fX10_weights_b69 (f + 1) (nI d) a1 (nI N) 0 0 M = some (0, M) := fun f M => rfl
  rcases hsh d hd with ⟨q1, q2⟩ | ⟨k, hk, q1, q2, q3⟩ | ⟨s, m, hs, hm, q1, q2, q3, q4, q5⟩
  · rw [sh_isEmpty_yes hd q1, q2, if_pos (by decide), if_pos (inb_nI hd), cl_nI (d := d) (by omega), q2, if_neg (by decide), pu_N, stop]
    exact ⟨0, σc, σm, rfl, rfl, h0⟩
  · have := hbd.1
    rw [sh_isEmpty_no hd (by rw [q1]; decide), sh_isBytes_no hd (by rw [q1]; decide), q3, if_neg pu_n1l, if_pos (inb_nI hd), if_neg (pl_ne (b := 50) (by omega))]
    exact ⟨-12, σc, σm, rfl, rfl, h0⟩
  · rw [sh_isEmpty_no hd (by rw [q1]; exact pu_n1), q2, if_neg pu_n1l, if_pos (inb_nI hd), Option.bind_some, if_pos (show (0 : Int32) = 0 from rfl)]
    by_cases hs0 : s = 0
    · subst hs0
      rw [sh_isBytes_yes hd q1, Option.bind_some, if_neg pu_10, if_pos (show nI (50 + 0) = 50 from rfl), if_pos (inb_nI hd), cl_nI (d := d) (by omega), q2, if_pos (show nI (50 + 0) = 50 from rfl)]
      by_cases hneg : a1 < 0
      · rw [if_pos hneg, pu_N, stop]
        refine ⟨0, σc, σm, ?_, rfl, h0⟩
        show fX9_weights_b56_o _ _ _ _ _ _ _ = _
        unfold fX9_weights_b56_o fX9_weights_b139
        have pl := sh_pl (sh_len hd q1 hs q3) hm a1 (0 + 1)
        have hh0 : fX7_has 0 σc = some 1 := pu_has_yes (d := 0) hst.1 (by omega)
        rw [if_neg (show ¬ (nI N ≤ 0) from pu_nle (a := N) (b := 0) (by omega)), hh0, Option.bind_some, if_neg pu_10, pl, if_neg (fun z => by rw [Int32.lt_iff_toInt_lt, Int32.toInt_zero] at hneg; omega)]
        rfl
      · rw [if_neg hneg]
        obtain ⟨p, hp, rfl⟩ := nI_of hneg
        obtain ⟨r, X, Y, e, w1, w2, w3, w4, w5, w6⟩ := wt_L (n := n) (σc := σc) (σm := σm) n2 n5 hd hm hp N5 (fun j hj => ⟨(q5 j hj).1, (q5 j hj).2 rfl⟩) N 0 ab_N ab_N σc σm (by omega) (by rw [pu_N]; omega) (by rw [pu_N]; omega) hst.1 q1 q3 rfl hst.2.1 q4 rfl hst.2.2.1
        rw [show nI 0 = (0 : Int32) from rfl] at w1 w2
        rw [w1, w2]
        have hst' : R_st n (ov wP σc X) (ov wQ σm Y) := ⟨hst.1, hst.2.1, fun d hd => by
          have e : (ov wQ σm Y).1 1 0 d = Y.1 1 0 d := if_pos (by simp [wQ, hd])
          exact ⟨(w3 d hd).1, e.trans (w3 d hd).2⟩, hst.2.2.2.1, hst.2.2.2.2⟩
        refine ⟨r, _, _, rfl, rfl, n, b, n2, n5, hst', hev, R_im_mono him, hch, htp, hlw, hgv, ?_, hbd, hsh⟩
        by_cases he : e = 0
        · rw [w6 he]
          exact R_bs_mono hbs
        · exact bs_age hbs e (by omega) (by omega) w5 (fun h => rfl)
    · rw [sh_isBytes_no hd (by rw [q1]; exact pl_ne (b := 0) hs0), if_neg (pl_ne (b := 50) (by omega))]
      exact ⟨-12, σc, σm, rfl, rfl, h0⟩
end
