/-! PURE, 25: which, judge, apart -/
section
variable {n d m g : Nat} {v : Nat → Nat → Nat} {σ0 : ab_S}
theorem bk_C {h T : Nat} (hh : h < 4) (hT : T ≤ 4) (H : HC d v σ0) : ∀ (k j fuel : Nat) (σ : ab_S), j + k = T → k < fuel → mT σ = mT σ0 → R_gv σ → ∃ σ', fX9_shareOfBook_b12 fuel (nI d) (nI h) (nI T) (lN (prod (v h) j)) (nI j) σ = some (lN (prod (v h) T), σ') ∧ mT σ' = mT σ0 ∧ R_gv σ' := by
  intro k
  induction k with
  | zero =>
    intro j fuel σ h1 h2 hm hgv
    obtain ⟨f, rfl⟩ : ∃ f, fuel = f + 1 := ⟨fuel - 1, by omega⟩
    refine ⟨σ, ?_, hm, hgv⟩
    show fX9_shareOfBook_b12_o _ _ _ _ _ _ _ = _
    unfold fX9_shareOfBook_b12_o fX9_shareOfBook_b43
    rw [if_pos (pu_le (by omega)), show j = T by omega]
  | succ k ih =>
    intro j fuel σ h1 h2 hm hgv
    obtain ⟨f, rfl⟩ : ∃ f, fuel = f + 1 := ⟨fuel - 1, by omega⟩
    obtain ⟨σ1, q1, q2, q3⟩ := H h j σ hh (by omega) hm hgv
    show ∃ σ', fX9_shareOfBook_b12_o (fX9_shareOfBook_b12 f) _ _ _ _ _ σ = some (_, σ') ∧ _
    unfold fX9_shareOfBook_b12_o
    rw [if_neg (pu_nle (by omega)), if_neg (pr_nle (b := 4) (by omega)), q1, Option.bind_some, nI_1, lN_mul]
    exact ih (j + 1) f σ1 (by omega) (by omega) q2 q3
theorem bk_M {h T K : Nat} (hh : h < 4) (hT : T = (m + 2) / 3) (hm12 : m ≤ 12) (hd6 : d < 6) (e1 : σ0.1 21 0 d = nI m) (H : HM d K v σ0) : ∀ (k j fuel : Nat) (σ : ab_S), j + k = T → k < fuel → mG σ = mG σ0 → ∃ σ', fX10_rowBy_b5 fuel (nI h) (nI d) (lN (prod (fun j => K * v h j) j)) (nI j) σ = some (lN (prod (fun j => K * v h j) T), σ') ∧ mG σ' = mG σ0 := by
  have e3 : ∀ j, (3 : Int32) * nI j = nI (3 * j) := fun j => by rw [show (3 : Int32) = nI 3 from rfl, pk_mul]
  intro k
  induction k with
  | zero =>
    intro j fuel σ h1 h2 hm
    obtain ⟨f, rfl⟩ : ∃ f, fuel = f + 1 := ⟨fuel - 1, by omega⟩
    refine ⟨σ, ?_, hm⟩
    show fX10_rowBy_b5_o _ _ _ _ _ _ = _
    unfold fX10_rowBy_b5_o
    rw [if_pos (inb_nI hd6), cl_nI (by omega), mG_get hm rfl, e1, e3, if_pos (pu_le (by omega)), show j = T by omega]
  | succ k ih =>
    intro j fuel σ h1 h2 hm
    obtain ⟨f, rfl⟩ : ∃ f, fuel = f + 1 := ⟨fuel - 1, by omega⟩
    obtain ⟨σ1, q1, q2⟩ := H h j σ hh (by omega) hm
    show ∃ σ', fX10_rowBy_b5_o (fX10_rowBy_b5 f) _ _ _ _ σ = some (_, σ') ∧ _
    unfold fX10_rowBy_b5_o
    rw [if_pos (inb_nI hd6), cl_nI (by omega), mG_get hm rfl, e1, e3, if_neg (pu_nle (by omega)), q1, Option.bind_some, nI_1, lN_mul]
    exact ih (j + 1) f σ1 (by omega) (by omega) q2
theorem wh_C {h T p : Nat} (hp : p ≤ 1) (hg : g < 32) (hh : h < 4) (hm : m ≤ 12) (hT : T = (m + 2) / 3) (hl : ∀ σ, mT σ = mT σ0 → fX9_threesOn (nI d) σ = some (nI T)) (hv : ∀ h j, v h j ≤ 12 ^ 4) (H : HC d v σ0) : ∀ (k q fuel : Nat) (σ : ab_S), q + k = 4 → k < fuel → mT σ = mT σ0 → R_gv σ → ∃ σ', fX9_which_b97 fuel (nI d) (nI p) (nI g) (nI h) (lN (sm (fun k => if g.testBit k = true then prod (v k) T else 0) q)) (nI q) σ = (if lg_cmp (lN (sm (fun k => if g.testBit k = true then prod (v k) T else 0) 4)) 0 = 0 then some (lN p, σ') else (fX9_lowest (lN (prod (v h) T)) (lN (sm (fun k => if g.testBit k = true then prod (v k) T else 0) 4)) (nI p)).bind fun x => some (x, σ')) ∧ mT σ' = mT σ0 ∧ R_gv σ' := by
  have sb : ∀ h σ, h < 4 → mT σ = mT σ0 → R_gv σ → ∃ σ', fX9_shareOfBook (nI d) (nI h) σ = some (lN (prod (v h) T), σ') ∧ mT σ' = mT σ0 ∧ R_gv σ' := fun h σ hh hm hgv => by
    unfold fX9_shareOfBook
    rw [hl σ hm, Option.bind_some]
    exact bk_C hh (by omega) H T 0 ab_N σ (by omega) (by rw [pu_N]; omega) hm hgv
  intro k
  induction k with
  | zero =>
    intro q fuel σ h1 h2 hm hgv
    obtain ⟨f, rfl⟩ : ∃ f, fuel = f + 1 := ⟨fuel - 1, by omega⟩
    show ∃ σ', fX9_which_b97_o (fX9_which_b97 f) _ _ _ _ _ _ σ = _ ∧ _
    unfold fX9_which_b97_o fX9_which_b156
    have : q = 4 := by omega
    subst this
    rw [if_pos (show (4 : Int32) ≤ nI 4 from pu_le (a := 4) (by omega))]
    by_cases hz : lg_cmp (lN (sm (fun k => if g.testBit k = true then prod (v k) T else 0) 4)) 0 = 0
    · refine ⟨σ, ?_, hm, hgv⟩
      rw [if_pos hz, if_pos hz, nI_l (by omega)]
    · obtain ⟨σ1, q1, q2, q3⟩ := sb h σ hh hm hgv
      refine ⟨σ1, ?_, q2, q3⟩
      rw [if_neg hz, if_neg hz, q1]
      rfl
  | succ k ih =>
    intro q fuel σ h1 h2 hm hgv
    obtain ⟨f, rfl⟩ : ∃ f, fuel = f + 1 := ⟨fuel - 1, by omega⟩
    show ∃ σ', fX9_which_b97_o (fX9_which_b97 f) _ _ _ _ _ _ σ = _ ∧ _
    unfold fX9_which_b97_o fX9_which_b125
    have st : sm (fun k => if g.testBit k = true then prod (v k) T else 0) (q + 1) = sm (fun k => if g.testBit k = true then prod (v k) T else 0) q + (if g.testBit q = true then prod (v q) T else 0) := rfl
    rw [if_neg (pr_nle (b := 4) (by omega)), pu_isInC g hg q (by omega), Option.bind_some, nI_1]
    cases hb : g.testBit q with
    | false =>
      simp only [Bool.false_eq_true, ↓reduceIte]
      rw [hb, if_neg (by decide)] at st
      have := ih (q + 1) f σ (by omega) (by omega) hm hgv
      rw [st] at this
      exact this
    | true =>
      simp only [↓reduceIte, pu_10]
      obtain ⟨σ1, q1, q2, q3⟩ := sb q σ (by omega) hm hgv
      rw [hb, if_pos rfl] at st
      rw [q1, Option.bind_some]
      dsimp only
      rw [lN_add, ← st]
      exact ih (q + 1) f σ1 (by omega) (by omega) q2 q3
theorem wh_M {h T p K : Nat} {x2 : Int32} (hg : g < 32) (hh : h < 4) (x1 : x2 / 10 = nI g) (x2' : ab_mod x2 10 = nI h) (hm12 : m ≤ 12) (hT : T = (m + 2) / 3) (hd6 : d < 6) (e1 : σ0.1 21 0 d = nI m) (H : HM d K v σ0) : ∀ (k q fuel : Nat) (σ : ab_S), q + k = 4 → k < fuel → mG σ = mG σ0 → ∃ σ', fX10_which_b88 fuel (nI d) x2 (nI p) (lN (sm (fun k => if g.testBit k = true then prod (fun j => K * v k j) T else 0) q)) (nI q) σ = ((fX10_partOf (lN (prod (fun j => K * v h j) T)) (lN (sm (fun k => if g.testBit k = true then prod (fun j => K * v k j) T else 0) 4)) (nI p)).bind fun x => some (x, σ')) ∧ mG σ' = mG σ0 := by
  have sb : ∀ h σ, h < 4 → mG σ = mG σ0 → ∃ σ', fX10_rowBy (nI h) (nI d) σ = some (lN (prod (fun j => K * v h j) T), σ') ∧ mG σ' = mG σ0 := fun h σ hh hm => by
    unfold fX10_rowBy
    exact bk_M hh hT hm12 hd6 e1 H T 0 ab_N σ (by omega) (by rw [pu_N]; omega) hm
  intro k
  induction k with
  | zero =>
    intro q fuel σ h1 h2 hm
    obtain ⟨f, rfl⟩ : ∃ f, fuel = f + 1 := ⟨fuel - 1, by omega⟩
    show ∃ σ', fX10_which_b88_o (fX10_which_b88 f) _ _ _ _ _ σ = _ ∧ _
    unfold fX10_which_b88_o
    have : q = 4 := by omega
    subst this
    obtain ⟨σ1, q1, q2⟩ := sb h σ hh hm
    rw [if_pos (show (4 : Int32) ≤ nI 4 from pu_le (a := 4) (by omega)), x2', q1]
    exact ⟨σ1, rfl, q2⟩
  | succ k ih =>
    intro q fuel σ h1 h2 hm
    obtain ⟨f, rfl⟩ : ∃ f, fuel = f + 1 := ⟨fuel - 1, by omega⟩
    show ∃ σ', fX10_which_b88_o (fX10_which_b88 f) _ _ _ _ _ σ = _ ∧ _
    unfold fX10_which_b88_o fX10_which_b119
    have st : sm (fun k => if g.testBit k = true then prod (fun j => K * v k j) T else 0) (q + 1) = sm (fun k => if g.testBit k = true then prod (fun j => K * v k j) T else 0) q + (if g.testBit q = true then prod (fun j => K * v q j) T else 0) := rfl
    rw [if_neg (pr_nle (b := 4) (by omega)), x1, pu_isInM g hg q (by omega), Option.bind_some, nI_1]
    cases hb : g.testBit q with
    | false =>
      simp only [Bool.false_eq_true, ↓reduceIte]
      rw [hb, if_neg (by decide)] at st
      have := ih (q + 1) f σ (by omega) (by omega) hm
      rw [st, Nat.add_zero] at this
      rw [Int64.add_zero]
      exact this
    | true =>
      simp only [↓reduceIte, pu_10]
      obtain ⟨σ1, q1, q2⟩ := sb q σ (by omega) hm
      rw [hb, if_pos rfl] at st
      rw [q1, Option.bind_some]
      dsimp only
      rw [lN_add, ← st]
      exact ih (q + 1) f σ1 (by omega) (by omega) q2
end
theorem div_neg {x : Int32} {k K : Nat} (h : x.toInt = -(k : Int)) (hk : k ≤ 2 ^ 31) (h1 : 1 < K) (hK : K < 2 ^ 31) : (x / nI K).toInt = -((k / K : Nat) : Int) := by
  have hd : k / K ≤ 2 ^ 30 := by
    have : k / K ≤ k / 2 := Nat.div_le_div_left h1 (by omega)
    omega
  rw [Int32.toInt_div, h, nI_toInt hK, Int.neg_tdiv, ← Int.ofNat_tdiv]
  generalize k / K = q at hd ⊢
  exact Int.bmod_eq_of_le (by omega) (by omega)
theorem neg_nat {x : Int32} (h : x < 0) : ∃ k : Nat, x.toInt = -(k : Int) ∧ k ≤ 2 ^ 31 ∧ 0 < k := by
  rw [Int32.lt_iff_toInt_lt, Int32.toInt_zero] at h
  exact ⟨x.toInt.natAbs, by omega, by have := Int32.le_toInt x; omega, by omega⟩
theorem lt_of_toInt {x : Int32} (h : x.toInt < 0) : x < 0 := by
  rw [Int32.lt_iff_toInt_lt, Int32.toInt_zero]; exact h
theorem eq_of_toInt {x : Int32} (h : x.toInt = 0) : x = 0 := by
  rw [← Int32.toInt_inj, h]; rfl
theorem mod_small {x : Int32} (h : x / 10 = 0) : ab_mod x 10 = x := by
  unfold ab_mod
  rw [h, Int32.zero_mul, Int32.sub_zero]

section
variable {i : Nat} {σc σm : ab_S}
/-- what both sides read of the threes on a row of bytes -/
theorem th_both {n d m : Nat} {y : Nat → Int32} (n2 : 2 ≤ n) (n5 : n ≤ 5) (hst : R_st n σc σm) (hlw : R_lw n σc σm) (hd6 : d < 6) (e0 : σc.1 40 0 d = 0) (e1 : σc.1 41 0 d = nI m) (e2 : σm.1 21 0 d = nI m) (hm : m ≤ 60) (hy : ∀ k, k < m → σc.2 43 d k = (y k).toInt64 ∧ σm.2 22 0 (60 * d + k) = (y k).toInt64) : ∃ v : Nat → Nat → Nat, (∀ h j, v h j ≤ 12 ^ (n - 1)) ∧ HC d v σc ∧ HM d (12 ^ (5 - n)) v σm := by
  refine ⟨fun h j => if 3 * j + 3 ≤ m then thv (n - 1) n (tw σc h) (y (3 * j)) (y (3 * j + 1)) (y (3 * j + 2)) else 0, fun h j => ?_, fun h j σ hh hj hs hg => ?_, fun h j σ hh hj hs => ?_⟩
  · dsimp only
    split
    · exact thv_le (fun a r c d x => twV_le _ _ _ _ _ _ _ _ _) (by omega) n5
    · exact Nat.zero_le _
  · obtain ⟨σ', q1, q2, q3⟩ := thC (n := n) (d := d) (m := m) (y := y) (h := h) (j := j) (σ := σ) hg (lwok_T hs (lwok hlw)) (by rw [mT_get hs rfl]; exact hst.1) (by omega) n5 hh hd6 (by rw [mT_get hs rfl]; exact e0) (by rw [mT_get hs rfl]; exact e1) hm hj (fun k hk => by rw [T_2 hs]; exact (hy k hk).1)
    rw [tw_T hs] at q1
    exact ⟨σ', q1, q2.trans hs, q3⟩
  · obtain ⟨σ', q1, q2⟩ := thM (n := n) (d := d) (m := m) (y := y) (h := h) (j := j) (σc := σc) (σ := σ) (R_lw_fr hlw rfl (mM_G hs)) (by rw [mG_get hs rfl]; exact hst.2.1) (by omega) n5 hh hd6 (by rw [mG_get hs rfl]; exact e2) hm hj (fun k hk => by rw [G_2 hs]; exact (hy k hk).2)
    refine ⟨σ', ?_, q2.trans hs⟩
    rw [q1]
    dsimp only
    split
    · rw [thv_sc (by omega) n5]
    · rw [Nat.mul_zero]
theorem three_len {n d m : Nat} {σ : ab_S} (hd6 : d < 6) (e0 : σ.1 40 0 d = 0) (e1 : σ.1 41 0 d = nI m) (hm : m ≤ 60) : fX9_threesOn (nI d) σ = some (nI ((m + 2) / 3)) := by
  unfold fX9_threesOn
  rw [sh_len (s := 0) (m := m) hd6 e0 (by omega) e1, Option.bind_some, show nI m + 2 = nI (m + 2) from nI_add _ _, show nI (m + 2) / 3 = nI ((m + 2) / 3) from pk_div (d := 3) (by omega) (by omega) (by omega)]
theorem pp_judge (h : Rel i σc σm) (hi : i ≤ 3072) (a0 : Int32) (a1 : Int32) : ∃ (r : Int32) (σc1 : ab_S) (σm1 : ab_S), fX9_judge a0 a1 σc = some (r, σc1) ∧ fX10_judge a0 a1 σm = some (r, σm1) ∧ Rel (i + 6) σc1 σm1 := by
  have hh0 := h
  have h0 := Rel_mono h
  obtain ⟨n, b, n2, n5, hst, hev, him, hch, htp, hlw, hgv, hbs, hbd, hsh⟩ := h
  unfold fX9_judge fX10_judge fX9_judge_b18 fX10_judge_b16 fX10_rowIs fX10_rowIs_b42
  rcases pu_ix a0 6 (by omega) with hx | ⟨d, hd, rfl⟩
  · rw [pu_hasS_no hx, pu_isShelf_no hx]
    exact ⟨-1, σc, σm, rfl, rfl, h0⟩
  rw [pu_hasS_yes hd, pu_isShelf_yes hd, Option.bind_some, Option.bind_some, if_neg pu_10, if_neg pu_10, if_pos (inb_nI hd), if_pos (inb_nI hd), cl_nI (by omega)]
  have b50 := hbd.1
  rcases hsh d hd with ⟨q1, q2⟩ | ⟨k, hk, q1, q2, q3⟩ | ⟨s, m, hs, hm, q1, q2, q3, q4, q5⟩
  · rw [q2]
    rcases pu_rng a1 1 15 with hv | ⟨g, g0, g1, rfl⟩
    · rw [pu_areHostsC_no hv, pu_areHostsM_no hv]
      exact ⟨-1, σc, σm, rfl, rfl, h0⟩
    rw [pu_areHostsC_yes g0 g1, pu_areHostsM_yes g0 g1, sh_isEmpty_yes hd q1]
    exact ⟨-11, σc, σm, rfl, rfl, h0⟩
  · rw [q3, if_pos (show (0 : Int32) ≤ nI k from pu_le (a := 0) (by omega)), if_neg (pl_ne (b := 50) (by omega))]
    rcases pu_rng a1 1 15 with hv | ⟨g, g0, g1, rfl⟩
    · rw [pu_areHostsC_no hv, pu_areHostsM_no hv]
      exact ⟨-1, σc, σm, rfl, rfl, h0⟩
    rw [pu_areHostsC_yes g0 g1, pu_areHostsM_yes g0 g1, sh_isEmpty_no hd (by rw [q1]; decide), sh_isBytes_no hd (by rw [q1]; decide)]
    exact ⟨-12, σc, σm, rfl, rfl, h0⟩
  · have e40 : (s = 0) → σc.1 40 0 d = 0 := fun e => by rw [q1, e]; rfl
    rw [q2, if_pos (show (0 : Int32) ≤ nI (50 + s) from pu_le (a := 0) (by omega))]
    rcases pu_rng a1 1 15 with hv | ⟨g, g0, g1, rfl⟩
    · rw [pu_areHostsC_no hv, pu_areHostsM_no hv]
      refine ⟨-1, σc, σm, rfl, ?_, h0⟩
      split <;> rfl
    rw [pu_areHostsC_yes g0 g1, pu_areHostsM_yes g0 g1, sh_isEmpty_no hd (by rw [q1]; exact pu_n1 (by omega)), Option.bind_some, if_neg pu_10, Option.bind_some, if_pos (show (0 : Int32) = 0 from rfl)]
    by_cases hs0 : s = 0
    · have e0 := e40 hs0
      subst hs0
      obtain ⟨y, hy⟩ : ∃ y : Nat → Int32, ∀ k, k < m → σc.2 43 d k = (y k).toInt64 ∧ σm.2 22 0 (60 * d + k) = (y k).toInt64 := by
        refine ⟨fun k => (σc.2 43 d k).toInt32, fun k hk => ?_⟩
        obtain ⟨z1, z2⟩ := q5 k (by omega)
        obtain ⟨y, hy⟩ := z2 rfl
        dsimp only
        rw [z1, hy, Int32.toInt32_toInt64]
        exact ⟨rfl, rfl⟩
      obtain ⟨v, v1, v2, v3⟩ := th_both n2 n5 hst hlw hd e0 q3 q4 hm hy
      rw [if_pos (show nI (50 + 0) = 50 from rfl), sh_isBytes_yes hd e0, Option.bind_some, if_neg pu_10, three_len (n := n) hd e0 q3 hm]
      have p1 : 12 ^ (n - 1) ≤ 12 ^ 4 := Nat.pow_le_pow_right (by omega) (by omega)
      have p2 : ∀ h j, 12 ^ (5 - n) * v h j ≤ 12 ^ 4 := fun h j => by
        have := Nat.mul_le_mul_left (12 ^ (5 - n)) (v1 h j)
        rw [← Nat.pow_add, show 5 - n + (n - 1) = 4 by omega] at this
        exact this
      obtain ⟨r, σ1, σ2, z1, z2, z3, z4, z5⟩ := jd_L (g := g) (m := m) (by omega) (Nat.pow_pos (by decide)) (fun h j => Nat.le_trans (v1 h j) p1) p2 v2 v3 hd q4 hm ((m + 2) / 3) 0 ab_N ab_N σc σm (by omega) (by rw [pu_N]; omega) (by rw [pu_N]; omega) rfl hgv rfl
      exact ⟨r, σ1, σ2, z1, z2, Rel_fr hh0 (mB_T z3) (mM_G z5) z4⟩
    · rw [if_neg (pl_ne (b := 50) (by omega)), sh_isBytes_no hd (by rw [q1]; exact pl_ne (b := 0) hs0)]
      exact ⟨-12, σc, σm, rfl, rfl, h0⟩
theorem wc_nb {d : Nat} {σ : ab_S} (hd : d < 6) (hb : fX6_isBytes (nI d) σ = some 0) (x2 x3 : Int32) : fX9_which (nI d) x2 x3 σ = some (-9223372036854775808, σ) := by
  unfold fX9_which fX9_which_b42 fX9_which_b74
  rw [pu_hasS_yes hd, Option.bind_some, if_neg pu_10]
  rcases pu_rng (x2 / 10) 1 15 with hv | ⟨g, g0, g1, e⟩
  · rw [pu_areHostsC_no hv]; rfl
  rw [e, pu_areHostsC_yes g0 g1, Option.bind_some, if_neg pu_10]
  rcases pu_ix (ab_mod x2 10) 4 (by omega) with hx | ⟨h, hh, e2⟩
  · by_cases q : ab_mod x2 10 < 0
    · rw [if_pos q]
    · rw [if_neg q, if_neg (fun z => by
        have z1 := hx.resolve_left q
        rw [Int32.lt_iff_toInt_lt] at z
        rw [Int32.le_iff_toInt_le] at z1
        have : (nI 4).toInt = (4 : Int32).toInt := rfl
        omega)]
  · rw [e2, if_neg (pu_n1l (by omega)), if_pos (pl_lt (b := 4) (by omega)), pu_isInC g (by omega) h (by omega), Option.bind_some]
    cases g.testBit h with
    | false => rfl
    | true =>
      simp only [↓reduceIte, pu_10]
      rcases pu_rng x3 0 1 with hv | ⟨p, p0, p1, rfl⟩
      · rw [pu_isPart_no hv]; rfl
      · rw [pu_isPart_yes p1, hb]; rfl
theorem pp_which (h : Rel i σc σm) (hi : i ≤ 3072) (a0 : Int32) (a1 : Int32) (a2 : Int32) : ∃ (r : Int64) (σc1 : ab_S) (σm1 : ab_S), fX9_which a0 a1 a2 σc = some (r, σc1) ∧ fX10_which a0 a1 a2 σm = some (r, σm1) ∧ Rel (i + 6) σc1 σm1 := by
  have hh0 := h
  have h0 := Rel_mono h
  obtain ⟨n, b, n2, n5, hst, hev, him, hch, htp, hlw, hgv, hbs, hbd, hsh⟩ := h
  have b50 := hbd.1
  have mno : ∀ r1, fX10_rowIs a0 σm = some r1 → r1 ≠ 1 → fX10_which a0 a1 a2 σm = some (-9223372036854775808, σm) := fun r1 h1 h2 => by
    unfold fX10_which
    rw [h1, Option.bind_some, if_neg h2]
    rfl
  rcases pu_ix a0 6 (by omega) with hx | ⟨d, hd, rfl⟩
  · refine ⟨-9223372036854775808, σc, σm, ?_, mno (-1) (by unfold fX10_rowIs; rw [pu_isShelf_no hx]; rfl) (by decide), h0⟩
    unfold fX9_which
    rw [pu_hasS_no hx]; rfl
  rcases hsh d hd with ⟨q1, q2⟩ | ⟨k, hk, q1, q2, q3⟩ | ⟨s, m, hs, hm, q1, q2, q3, q4, q5⟩
  · refine ⟨_, σc, σm, wc_nb hd (sh_isBytes_no hd (by rw [q1]; decide)) _ _, mno (-11) ?_ (by decide), h0⟩
    unfold fX10_rowIs
    rw [pu_isShelf_yes hd, Option.bind_some, if_neg pu_10, if_pos (inb_nI hd), cl_nI (by omega), q2]
    rfl
  · refine ⟨_, σc, σm, wc_nb hd (sh_isBytes_no hd (by rw [q1]; decide)) _ _, mno (-12) ?_ (by decide), h0⟩
    unfold fX10_rowIs
    rw [pu_isShelf_yes hd, Option.bind_some, if_neg pu_10, if_pos (inb_nI hd), cl_nI (by omega), q3, if_pos (show (0 : Int32) ≤ nI k from pu_le (a := 0) (by omega)), if_pos (inb_nI hd), if_neg (pl_ne (b := 50) (by omega))]
    rfl
  by_cases hs0 : s ≠ 0
  · refine ⟨_, σc, σm, wc_nb hd (sh_isBytes_no hd (by rw [q1]; exact pl_ne (b := 0) hs0)) _ _, mno (-12) ?_ (by decide), h0⟩
    unfold fX10_rowIs
    rw [pu_isShelf_yes hd, Option.bind_some, if_neg pu_10, if_pos (inb_nI hd), cl_nI (by omega), q2, if_pos (show (0 : Int32) ≤ nI (50 + s) from pu_le (a := 0) (by omega)), if_pos (inb_nI hd), if_neg (pl_ne (b := 50) (by omega))]
    rfl
  have hs1 : s = 0 := by omega
  subst hs1
  have e0 : σc.1 40 0 d = 0 := q1
  have hrow : fX10_rowIs (nI d) σm = some 1 := by
    unfold fX10_rowIs
    rw [pu_isShelf_yes hd, Option.bind_some, if_neg pu_10, if_pos (inb_nI hd), cl_nI (by omega), q2, if_pos (show (0 : Int32) ≤ nI (50 + 0) from pu_le (a := 0) (by omega)), if_pos (inb_nI hd), if_pos (show nI (50 + 0) = 50 from rfl)]
    rfl
  obtain ⟨y, hy⟩ : ∃ y : Nat → Int32, ∀ k, k < m → σc.2 43 d k = (y k).toInt64 ∧ σm.2 22 0 (60 * d + k) = (y k).toInt64 := by
    refine ⟨fun k => (σc.2 43 d k).toInt32, fun k hk => ?_⟩
    obtain ⟨z1, z2⟩ := q5 k (by omega)
    obtain ⟨y, hy⟩ := z2 rfl
    dsimp only
    rw [z1, hy, Int32.toInt32_toInt64]
    exact ⟨rfl, rfl⟩
  obtain ⟨v, v1, v2, v3⟩ := th_both n2 n5 hst hlw hd e0 q3 q4 hm hy
  have bad : fX10_which_b59 (nI d) a1 a2 σm = some (-9223372036854775808, σm) := rfl
  unfold fX9_which fX10_which fX9_which_b42 fX9_which_b74
  rw [hrow, Option.bind_some, if_pos (show (1 : Int32) = 1 from rfl), bad, pu_hasS_yes hd, Option.bind_some, if_neg pu_10]
  by_cases hneg : a1 < 0
  · rw [if_pos hneg]
    refine ⟨_, σc, σm, ?_, rfl, h0⟩
    obtain ⟨k, k1, k2, k3⟩ := neg_nat hneg
    have := div_neg (K := 10) k1 k2 (by omega) (by omega)
    rw [pu_areHostsC_no (Or.inl (by rw [Int32.lt_iff_toInt_lt, nI_toInt (by omega)]; have e : a1 / 10 = a1 / nI 10 := rfl; rw [e]; omega))]
    rfl
  rw [if_neg hneg]
  obtain ⟨a, ha, rfl⟩ := nI_of hneg
  have ed : nI a / 10 = nI (a / 10) := pk_div (d := 10) ha (by omega) (by omega)
  have er : ab_mod (nI a) 10 = nI (a % 10) := pk_rem (d := 10) ha (by omega) (by omega)
  rw [ed, er]
  rcases pu_rng (nI (a / 10)) 1 15 with hv | ⟨g, g0, g1, eg⟩
  · rw [pu_areHostsC_no hv, pu_areHostsM_no hv]
    exact ⟨_, σc, σm, rfl, rfl, h0⟩
  have eg' : a / 10 = g := (nI_eq (by omega) (by omega)).mp eg
  rw [eg', pu_areHostsC_yes g0 g1, pu_areHostsM_yes g0 g1, Option.bind_some, Option.bind_some, if_neg pu_10, if_neg pu_10, if_neg (pu_n1l (by omega))]
  by_cases hh : 4 ≤ a % 10
  · rw [if_neg (pl_nlt (b := 4) hh), if_pos (show (4 : Int32) ≤ nI (a % 10) from pu_le (a := 4) hh)]
    exact ⟨_, σc, σm, rfl, rfl, h0⟩
  rw [if_pos (pl_lt (b := 4) (by omega)), if_neg (pr_nle (b := 4) (by omega)), pu_isInC g (by omega) _ (by omega), pu_isInM g (by omega) _ (by omega), Option.bind_some, Option.bind_some]
  cases hbit : g.testBit (a % 10) with
  | false => exact ⟨_, σc, σm, rfl, rfl, h0⟩
  | true =>
    simp only [↓reduceIte, pu_10]
    rcases pu_rng a2 0 1 with hv | ⟨p, p0, p1, rfl⟩
    · rw [pu_isPart_no hv, show fX10_within a2.toInt64 0 1 = some 0 from pu_wi_no (lo := 0) (hi := 1) hv]
      exact ⟨_, σc, σm, rfl, rfl, h0⟩
    rw [pu_isPart_yes p1, show fX10_within (nI p).toInt64 0 1 = some 1 from pu_wi_yes (lo := 0) (hi := 1) p0 p1, Option.bind_some, Option.bind_some, if_neg pu_10, if_neg pu_10, sh_isBytes_yes hd e0, Option.bind_some, if_neg pu_10, three_len (n := n) hd e0 q3 hm, Option.bind_some]
    unfold fX10_which_b60 fX10_which_b78
    rw [if_neg pu_10, if_pos (inb_nI hd), cl_nI (by omega), q4]
    by_cases hm12 : m ≤ 12
    · rw [if_pos (pl_le (b := 4) (by omega)), if_pos (pl_le (b := 12) (by omega))]
      have p1' : 12 ^ (n - 1) ≤ 12 ^ 4 := Nat.pow_le_pow_right (by omega) (by omega)
      have p2 : ∀ h j, 12 ^ (5 - n) * v h j ≤ 12 ^ 4 := fun h j => by
        have := Nat.mul_le_mul_left (12 ^ (5 - n)) (v1 h j)
        rw [← Nat.pow_add, show 5 - n + (n - 1) = 4 by omega] at this
        exact this
      have hK : 0 < 12 ^ (5 - n) := Nat.pow_pos (by decide)
      obtain ⟨σ1, z1, z2, z3⟩ := wh_C (m := m) (d := d) (g := g) (h := a % 10) (T := (m + 2) / 3) (p := p) p1 (by omega) (by omega) hm12 rfl (fun σ hσ => three_len (n := n) hd (by rw [mT_get hσ rfl]; exact e0) (by rw [mT_get hσ rfl]; exact q3) hm) (fun h j => Nat.le_trans (v1 h j) p1') v2 4 0 ab_N σc (by omega) (by rw [pu_N]; omega) rfl hgv
      obtain ⟨σ2, w1, w2⟩ := wh_M (m := m) (d := d) (g := g) (h := a % 10) (T := (m + 2) / 3) (p := p) (x2 := nI a) (by omega) (by omega) (by rw [ed, eg']) er hm12 rfl hd q4 v3 4 0 ab_N σm (by omega) (by rw [pu_N]; omega) rfl
      have w1' : fX10_which_b88 ab_N (nI d) (nI a) (nI p) 0 0 σm = _ := w1
      have z1' : fX9_which_b97 ab_N (nI d) (nI p) (nI g) (nI (a % 10)) 0 0 σc = _ := z1
      rw [w1', z1']
      have hR := Rel_fr hh0 (mB_T z2) (mM_G w2) z3
      have T4 : (m + 2) / 3 ≤ 4 := by omega
      generalize (m + 2) / 3 = T at T4
      have P1 : ∀ k, prod (v k) T ≤ 12 ^ 16 := fun k => Nat.le_trans (prod_le (fun j => Nat.le_trans (v1 k j) p1') T) (by rw [← Nat.pow_mul]; exact Nat.pow_le_pow_right (by omega) (by omega))
      have P2 : ∀ k, prod (fun j => 12 ^ (5 - n) * v k j) T ≤ 12 ^ 16 := fun k => Nat.le_trans (prod_le (p2 k) T) (by rw [← Nat.pow_mul]; exact Nat.pow_le_pow_right (by omega) (by omega))
      have S1 := sm_le (f := fun k => if g.testBit k = true then prod (v k) T else 0) (B := 12 ^ 16) 4 (fun k _ => by split; exact P1 k; exact Nat.zero_le _)
      have S2 := sm_le (f := fun k => if g.testBit k = true then prod (fun j => 12 ^ (5 - n) * v k j) T else 0) (B := 12 ^ 16) 4 (fun k _ => by split; exact P2 k; exact Nat.zero_le _)
      have SC : sm (fun k => if g.testBit k = true then prod (fun j => 12 ^ (5 - n) * v k j) T else 0) 4 = (12 ^ (5 - n)) ^ T * sm (fun k => if g.testBit k = true then prod (v k) T else 0) 4 := by
        rw [← sm_mul]
        refine sm_congr 4 (fun k _ => ?_)
        split
        · exact prod_sc T
        · rw [Nat.mul_zero]
      have GE := sm_ge (f := fun k => if g.testBit k = true then prod (v k) T else 0) 4 (a % 10) (by omega)
      rw [hbit, if_pos rfl] at GE
      have hKT : 0 < (12 ^ (5 - n)) ^ T := Nat.pow_pos hK
      by_cases hz : sm (fun k => if g.testBit k = true then prod (v k) T else 0) 4 = 0
      · rw [if_pos ((pu_l0 (by omega)).mpr hz)]
        have pz : prod (fun j => 12 ^ (5 - n) * v (a % 10) j) T = 0 := by rw [prod_sc, show prod (v (a % 10)) T = 0 by omega, Nat.mul_zero]
        rw [pz, pu_partOf0 p1]
        exact ⟨_, σ1, σ2, rfl, rfl, hR⟩
      · rw [if_neg (fun z => hz ((pu_l0 (by omega)).mp z)), pu_lowest p1 (by have := P1 (a % 10); omega) (by omega) (by omega), pu_partOf p1 (by have := P2 (a % 10); omega) (by omega) (by rw [SC]; exact Nat.mul_pos hKT (by omega)), frac_scale2 hKT (prod_sc T) SC]
        exact ⟨_, σ1, σ2, rfl, rfl, hR⟩
    · rw [if_neg (pl_nle (b := 4) (by omega)), if_neg (pl_nle (b := 12) (by omega))]
      exact ⟨_, σc, σm, rfl, rfl, h0⟩
end
