/-! PURE, 18: the reference reads and works out a law, to its end -/
def fM (lv n : Nat) : ab_S → Option (Int32 × ab_S) := match lv with
  | 0 => fX10_either n
  | 1 => fX10_both n
  | 2 => fX10_compared n
  | 3 => fX10_sums n
  | 4 => fX10_product n
  | _ => fX10_one n
theorem nm_yes {x : Int32} (h : isNm x = true) : ∃ k, k < 6 ∧ fX10_nameOf x = some (nI k) ∧ (∀ σ : ab_S, σ.1 11 0 k = envM σ x) ∧ x ≠ 33 ∧ x ≠ 45 ∧ x ≠ 40 ∧ x ≠ 59 ∧ x ≠ 63 ∧ x < 1000 ∧ ¬ (x < 97 ∨ 122 < x) := by
  simp only [isNm, Bool.or_eq_true, decide_eq_true_eq] at h
  rcases h with rfl | rfl | rfl | rfl | rfl | rfl
  · exact ⟨0, by omega, rfl, fun σ => rfl, by decide⟩
  · exact ⟨1, by omega, rfl, fun σ => rfl, by decide⟩
  · exact ⟨2, by omega, rfl, fun σ => rfl, by decide⟩
  · exact ⟨3, by omega, rfl, fun σ => rfl, by decide⟩
  · exact ⟨4, by omega, rfl, fun σ => rfl, by decide⟩
  · exact ⟨5, by omega, rfl, fun σ => rfl, by decide⟩
theorem nm_no {x : Int32} (h : ¬ isNm x = true) : fX10_nameOf x = some (-1) := by
  simp only [isNm, Bool.or_eq_true, decide_eq_true_eq, not_or] at h
  obtain ⟨h1, h2, h3, h4, h5, h6⟩ := h
  unfold fX10_nameOf
  rw [if_neg h6, if_neg h3, if_neg h1, if_neg h4, if_neg h5, if_neg h2]
theorem dg_n {x : Int32} (h : isDg x = true) : ∃ b, 48 ≤ b ∧ b ≤ 57 ∧ x = nI b := by
  simp only [isDg, Bool.and_eq_true, decide_eq_true_eq] at h
  rcases pu_rng x 48 57 with q | q
  · rcases q with q | q
    · exact absurd q h.1
    · exact absurd q h.2
  · exact q
theorem pnm_v {q : Nat → Int32} : ∀ (k p w : Nat) (v : Int32), k ≤ 4 → v = nI w → w < 10 ^ (4 - k) → ∃ w', (pnm q k p v).2 = nI w' ∧ w' < 10 ^ 4
  | 0, p, w, v, _, h, hw => ⟨w, h, hw⟩
  | k + 1, p, w, v, hk, h, hw => by
    unfold pnm
    have hp : 10 ^ (4 - k) = 10 * 10 ^ (4 - (k + 1)) := by rw [show 4 - k = 4 - (k + 1) + 1 by omega, Nat.pow_succ, Nat.mul_comm]
    have hp2 : 10 ^ (4 - (k + 1)) ≤ 10 ^ 4 := Nat.pow_le_pow_right (by omega) (by omega)
    by_cases hd : isDg (q p) = true
    · rw [if_pos hd]
      obtain ⟨b, b1, b2, e⟩ := dg_n hd
      refine pnm_v k (p + 1) (10 * w + b - 48) _ (by omega) ?_ (by omega)
      rw [e, h, show (10 : Int32) = nI 10 from rfl, pk_mul, nI_add, show (48 : Int32) = nI 48 from rfl, pk_sub (by omega)]
    · rw [if_neg hd]
      exact ⟨w, h, by omega⟩
theorem mach_num {env : Int32 → Int32} {w : Nat} (hw : w < 10 ^ 4) (rest st : List Int32) : mach env ([1000 + nI w] ++ rest) false st = mach env rest false (nI w :: st) := by
  have e : (1000 : Int32) + nI w = nI (1000 + w) := by rw [show (1000 : Int32) = nI 1000 from rfl, nI_add]
  rw [e]
  show (if nI (1000 + w) = 59 then _ else if nI (1000 + w) = 63 then _ else if nI (1000 + w) < 1000 then _ else _) = _
  rw [if_neg (pl_ne (b := 59) (by omega)), if_neg (pl_ne (b := 63) (by omega)), if_neg (pl_nlt (b := 1000) (by omega))]
  have := pk_sub (a := 1000 + w) (b := 1000) (by omega)
  rw [show nI 1000 = (1000 : Int32) from rfl] at this
  show mach env rest false ((nI (1000 + w) - 1000) :: st) = _
  rw [this, show 1000 + w - 1000 = w by omega]
section
variable {t : Nat → Int32} {L : Nat} {env : Int32 → Int32}
theorem pm_dig {r0 r1 r2 r3 r4 r5 : ab_S → Option (Int32 × ab_S)} : ∀ (k F p dp j : Nat) (v : Int32) (σ : ab_S), k + j = 4 → 1 ≤ j → k < F → MS t L σ p dp → ∃ σ', fX10_one_b176 r0 r1 r2 r3 r4 r5 F v (nI j) σ = some ((pnm (lt_ t L) k p v).2, σ') ∧ mQ σ' = mQ σ ∧ MS t L σ' (pnm (lt_ t L) k p v).1 dp := by
  have fin : ∀ (p dp j : Nat) (v : Int32) (σ : ab_S), 1 ≤ j → j ≤ 4 → MS t L σ p dp → ∃ σ', fX10_one_b229 r0 r1 r2 r3 r4 r5 v (nI j) σ = some (v, σ') ∧ mQ σ' = mQ σ ∧ MS t L σ' p dp := by
    intro p dp j v σ h1 h4 ms
    unfold fX10_one_b229 fX10_one_b242
    rw [if_neg (pl_ne (b := 0) (by omega))]
    exact ⟨σ, rfl, rfl, ms⟩
  intro k
  induction k with
  | zero =>
    intro F p dp j v σ h1 h2 h3 ms
    obtain ⟨F, rfl⟩ : ∃ f, F = f + 1 := ⟨F - 1, by omega⟩
    obtain ⟨σ', q⟩ := fin p dp j v σ h2 (by omega) ms
    refine ⟨σ', ?_, q.2⟩
    show fX10_one_b176_o _ _ _ _ _ _ _ _ _ _ = _
    unfold fX10_one_b176_o
    rw [if_pos (pr_le (b := 4) (by omega))]
    exact q.1
  | succ k ih =>
    intro F p dp j v σ h1 h2 h3 ms
    obtain ⟨F, rfl⟩ : ∃ f, F = f + 1 := ⟨F - 1, by omega⟩
    show ∃ σ', fX10_one_b176_o _ _ _ _ _ _ _ _ _ _ = _ ∧ _
    unfold fX10_one_b176_o pnm
    rw [if_neg (pr_nle (b := 4) (by omega)), ms.byte]
    simp only [Option.bind_some]
    obtain ⟨σ1, q⟩ := fin p dp j v σ h2 (by omega) ms
    by_cases hd : isDg (lt_ t L p) = true
    · have hp := isDg_lt hd
      have hd2 := hd
      simp only [isDg, Bool.and_eq_true, decide_eq_true_eq] at hd2
      rw [if_pos hd, bt_lt hp, if_neg hd2.1, if_neg hd2.2, pu_k, ms.2.1, nI_1, nI_1]
      obtain ⟨σ', y1, y2, y3⟩ := ih F (p + 1) dp (j + 1) (10 * v + lt_ t L p - 48) _ (by omega) (by omega) (by omega) (ms.next hp)
      exact ⟨σ', y1, y2.trans (mQ_si rfl), y3⟩
    · rw [if_neg hd]
      refine ⟨σ1, ?_, q.2⟩
      rw [← bt_dg] at hd
      by_cases c1 : bt_ t L p < 48
      · rw [if_pos c1]; exact q.1
      · rw [if_neg c1, if_pos (by
          simp only [isDg, Bool.and_eq_true, decide_eq_true_eq, not_and] at hd
          exact Classical.byContradiction (fun z => hd c1 z))]
        exact q.1
theorem pm_main : ∀ (f lv dp p n : Nat) (σ : ab_S), lv ≤ 5 → dp ≤ 6 → 6 * (6 - dp) + 1 + (5 - lv) ≤ f → 6 * (6 - dp) + 1 + (5 - lv) ≤ n → MS t L σ p dp → envM σ = env → ∃ v σ', fM lv n σ = some (v, σ') ∧ MP L σ σ' env dp (pj (lt_ t L) f lv dp p) v := by
  intro f
  induction f with
  | zero => intro lv dp p n σ _ _ h; omega
  | succ f ih =>
    intro lv dp p n σ hlv hdp hf hn ms he
    obtain ⟨n, rfl⟩ : ∃ m, n = m + 1 := ⟨n - 1, by omega⟩
    have hL := ms.1.1
    have hpL := ms.2.2.1
    by_cases h5 : lv < 5
    · have NXx : NX t L env dp (fun p' => pj (lt_ t L) f (lv + 1) dp p') (fM (lv + 1) n) := ⟨fun p hp => pj_g f (lv + 1) dp p hp, fun p σ ms he => ih (lv + 1) dp p n σ (by omega) hdp (by omega) (by omega) ms he⟩
      obtain ⟨v1, σ1, q1, q2⟩ := ih (lv + 1) dp p n σ (by omega) hdp (by omega) (by omega) ms he
      have hg := pj_g (t := t) (L := L) f (lv + 1) dp p hpL
      have hp : pj (lt_ t L) (f + 1) lv dp p = plp (fun p' => pj (lt_ t L) f (lv + 1) dp p') (isJ lv) (lt_ t L) (if lv = 2 then 1 else 1024) (pj (lt_ t L) f (lv + 1) dp p) := by
        show (if lv < 5 then _ else _) = _
        rw [if_pos h5]
      rw [hp]
      have gen : ∀ loop : Nat → Int32 → ab_S → Option (Int32 × ab_S), LPm t L lv (fM (lv + 1) n) loop → ∃ v' σ', loop ab_N v1 σ1 = some (v', σ') ∧ MP L σ σ' env dp (plp (fun p' => pj (lt_ t L) f (lv + 1) dp p') (isJ lv) (lt_ t L) 1024 (pj (lt_ t L) f (lv + 1) dp p)) v' := fun loop hlp =>
        pm_loop h5 NXx hlp ms he 1024 ab_N _ v1 σ1 hg.2.1 (by omega) (by rw [pu_N]; omega) q2
      rcases (show lv = 0 ∨ lv = 1 ∨ lv = 2 ∨ lv = 3 ∨ lv = 4 by omega) with rfl | rfl | rfl | rfl | rfl
      · rw [if_neg (by decide)]
        obtain ⟨v', σ', y1, y2⟩ := gen _ lp_either
        refine ⟨v', σ', ?_, y2⟩
        show fX10_either_o _ _ _ _ _ _ σ = _
        unfold fX10_either_o
        rw [show (fzX10_both n).1 σ = some (v1, σ1) from q1]
        exact y1
      · rw [if_neg (by decide)]
        obtain ⟨v', σ', y1, y2⟩ := gen _ lp_both
        refine ⟨v', σ', ?_, y2⟩
        show fX10_both_o _ _ _ _ _ _ σ = _
        unfold fX10_both_o
        rw [show (fzX10_both n).2.1 σ = some (v1, σ1) from q1]
        exact y1
      · rw [if_pos rfl]
        show ∃ v' σ', fX10_compared_o (fX10_both n) (fX10_compared n) (fX10_either n) (fX10_one n) (fX10_product n) (fX10_sums n) σ = some (v', σ') ∧ _
        unfold fX10_compared_o fX10_compared_b35
        rw [show fX10_sums n σ = some (v1, σ1) from q1, Option.bind_some]
        generalize hr : pj (lt_ t L) f (2 + 1) dp p = r at q2 hg
        obtain ⟨w, p1, cs⟩ := r
        obtain ⟨p', hp', e18⟩ := q2.2.1
        rw [(ms.1.mv q2.1).byte hp' e18, Option.bind_some]
        unfold plp
        cases w with
        | true =>
          rw [if_pos rfl, q2.2.2.1 rfl, if_pos (pr_le (b := 0) (by omega) (by have := hg.2.1; dsimp only at this ⊢; omega))]
          exact ⟨v1, σ1, rfl, q2⟩
        | false =>
          have ms2 := q2.ms ms rfl hg.2.1
          dsimp only at ms2
          have e1 : p' = p1 := by
            have := ms2.2.1
            rw [e18] at this
            have hh := ms2.2.2.1
            exact (nI_eq (by omega) (by omega)).mp this
          subst e1
          rw [if_neg Bool.false_ne_true, ms2.2.2.2.1, if_neg (by decide)]
          by_cases hJ : isJ 2 (lt_ t L p') = true
          · have hpl := isJ_lt hJ
            have hbin := isJ_bin (by omega) hJ
            rw [if_pos hJ]
            obtain ⟨v2, σ2, z1, z2⟩ := NXx.2 (p' + 1) _ (ms2.next hpl) (((env_Q (mQ_si rfl)).trans (env_Q q2.1)).trans he)
            have z3 := q2.step z2 hbin
            have e3 : lt_ t L p' = 60 ∨ lt_ t L p' = 61 ∨ lt_ t L p' = 62 := by simpa [isJ] using hJ
            refine ⟨_, σ2, ?_, z3⟩
            unfold fX10_compared_b37 fX10_compared_b85 fX10_compared_b89 fX10_compared_b90
            rw [bt_lt hpl]
            simp only [pu_k, ms2.2.1, nI_1, show fX10_sums n (ab_si σ1 0 0 18 (nI (p' + 1))) = some (v2, σ2) from z1, Option.bind_some]
            rcases e3 with e3 | e3 | e3
            · rw [e3]
              simp only [↓reduceIte]
              show _ = some (if v2 ≤ v1 then 0 else 1, σ2)
              by_cases c : v2 ≤ v1
              · rw [if_pos c, if_pos c]
              · rw [if_neg c, if_neg c]
            · rw [e3, if_neg (by decide), if_pos rfl, if_neg (by decide)]
              simp only [↓reduceIte]
              show _ = some (if v1 = v2 then 1 else 0, σ2)
              by_cases c : v1 = v2
              · rw [if_pos c, if_pos c]
              · rw [if_neg c, if_neg c]
            · rw [e3, if_neg (by decide), if_neg (by decide), if_pos rfl, if_neg (by decide), if_neg (by decide)]
              show _ = some (if v1 ≤ v2 then 0 else 1, σ2)
              by_cases c : v1 ≤ v2
              · rw [if_pos c, if_pos c]
              · rw [if_neg c, if_neg c]
          · rw [if_neg hJ]
            refine ⟨v1, σ1, ?_, q2⟩
            rw [if_neg (fun z => hJ (by rw [(bt_eq (by decide) (by decide)).mp z]; rfl)), if_neg (fun z => hJ (by rw [(bt_eq (by decide) (by decide)).mp z]; rfl)), if_neg (fun z => hJ (by rw [(bt_eq (by decide) (by decide)).mp z]; rfl))]
      · rw [if_neg (by decide)]
        obtain ⟨v', σ', y1, y2⟩ := gen _ lp_sums
        refine ⟨v', σ', ?_, y2⟩
        show fX10_sums_o _ _ _ _ _ _ σ = _
        unfold fX10_sums_o
        rw [show (fzX10_both n).2.2.2.2.1 σ = some (v1, σ1) from q1]
        exact y1
      · rw [if_neg (by decide)]
        obtain ⟨v', σ', y1, y2⟩ := gen _ lp_product
        refine ⟨v', σ', ?_, y2⟩
        show fX10_product_o _ _ _ _ _ _ σ = _
        unfold fX10_product_o
        rw [show (fzX10_both n).2.2.2.1 σ = some (v1, σ1) from q1]
        exact y1
    · have h5' : lv = 5 := by omega
      subst h5'
      show ∃ v' σ', fX10_one_o (fX10_both n) (fX10_compared n) (fX10_either n) (fX10_one n) (fX10_product n) (fX10_sums n) σ = some (v', σ') ∧ _
      unfold fX10_one_o pj
      rw [ms.2.2.2.1, if_pos (by decide), ms.byte, Option.bind_some, if_neg (show ¬ 5 < 5 by omega)]
      by_cases hd : isDg (lt_ t L p) = true
      · have hp := isDg_lt hd
        obtain ⟨b, b1, b2, e⟩ := dg_n hd
        have hnn : ¬ isNm (lt_ t L p) = true := by
          rw [e]
          simp only [isNm, Bool.or_eq_true, decide_eq_true_eq, not_or]
          exact ⟨pl_ne (b := 100) (by omega), pl_ne (b := 120) (by omega), pl_ne (b := 99) (by omega), pl_ne (b := 110) (by omega), pl_ne (b := 114) (by omega), pl_ne (b := 97) (by omega)⟩
        rw [if_pos hd, bt_lt hp, nm_no hnn]
        have hd2 := hd
        simp only [isDg, Bool.and_eq_true, decide_eq_true_eq] at hd2
        rw [e, if_neg (pl_ne (b := 33) (by omega)), if_neg (pl_ne (b := 45) (by omega)), if_neg (pl_ne (b := 40) (by omega)), Option.bind_some, if_pos (by decide)]
        show ∃ v' σ', fX10_one_b176_o _ _ _ _ _ _ _ _ _ _ = some (v', σ') ∧ _
        unfold fX10_one_b176_o
        rw [if_neg (by decide), ms.byte, bt_lt hp]
        simp only [Option.bind_some]
        rw [if_neg hd2.1, if_neg hd2.2, pu_k, ms.2.1, nI_1]
        obtain ⟨σ', y1, y2, y3⟩ := pm_dig (t := t) (L := L) (r0 := fX10_both n) (r1 := fX10_compared n) (r2 := fX10_either n) (r3 := fX10_one n) (r4 := fX10_product n) (r5 := fX10_sums n) 3 1023 (p + 1) dp 1 (10 * 0 + lt_ t L p - 48) _ (by omega) (by omega) (by omega) (ms.next hp)
        have e4 : pnm (lt_ t L) 4 p 0 = pnm (lt_ t L) 3 (p + 1) (10 * 0 + lt_ t L p - 48) := by
          show (if isDg (lt_ t L p) = true then _ else _) = _
          rw [if_pos hd]
        rw [e4]
        obtain ⟨w', w1, w2⟩ := pnm_v (q := lt_ t L) 3 (p + 1) (b - 48) (10 * 0 + lt_ t L p - 48) (by omega) (by
          rw [e, show (10 : Int32) * 0 = 0 from rfl, show (0 : Int32) = nI 0 from rfl, nI_add, show (48 : Int32) = nI 48 from rfl, pk_sub (by omega)]
          congr 1
          omega) (by omega)
        refine ⟨_, σ', y1, y2.trans (mQ_si rfl), ⟨_, y3.2.2.1, y3.2.1⟩, fun z => (by cases z), fun _ => ⟨y3.2.2.2.1, y3.2.1, y3.2.2.2.2, fun rest st => ?_⟩⟩
        dsimp only
        rw [w1]
        exact mach_num w2 rest st
      rw [if_neg hd]
      by_cases hnm : isNm (lt_ t L p) = true
      · have hp := isNm_lt hnm
        obtain ⟨k, hk, k1, k2, k3, k4, k5, k6, k7, k8, k9⟩ := nm_yes hnm
        rw [if_pos hnm, bt_lt hp, if_neg k3, if_neg k4, if_neg k5, k1, Option.bind_some, if_neg (pu_n1l (by omega)), pu_k, ms.2.1, nI_1, if_pos (inb_nI hk), cl_nI (by omega)]
        refine ⟨_, _, rfl, mQ_si rfl, ⟨p + 1, by omega, rfl⟩, fun z => (by cases z), fun _ => ⟨ms.2.2.2.1, rfl, ms.2.2.2.2, fun rest st => ?_⟩⟩
        show (if lt_ t L p = 59 then _ else if lt_ t L p = 63 then _ else if lt_ t L p < 1000 then (if lt_ t L p < 97 ∨ 122 < lt_ t L p then _ else _) else _) = _
        rw [if_neg k6, if_neg k7, if_pos k8, if_neg k9, ← he, show (ab_si σ 0 0 18 (nI (p + 1))).1 11 0 k = σ.1 11 0 k from rfl, k2]
        rfl
      rw [if_neg hnm]
      have b32 : lt_ t L p = 33 ∨ lt_ t L p = 45 ∨ lt_ t L p = 40 → ∃ v' σ', fX10_one_b32 (fX10_both n) (fX10_compared n) (fX10_either n) (fX10_one n) (fX10_product n) (fX10_sums n) (lt_ t L p) σ = some (v', σ') ∧ MP L σ σ' env dp (if 6 ≤ dp then (true, p, []) else if lt_ t L p = 40 then (if (pj (lt_ t L) f 0 (dp + 1) (p + 1)).1 = true then pj (lt_ t L) f 0 (dp + 1) (p + 1) else if lt_ t L (pj (lt_ t L) f 0 (dp + 1) (p + 1)).2.1 = 41 then (false, (pj (lt_ t L) f 0 (dp + 1) (p + 1)).2.1 + 1, (pj (lt_ t L) f 0 (dp + 1) (p + 1)).2.2) else (true, (pj (lt_ t L) f 0 (dp + 1) (p + 1)).2)) else if lt_ t L p = 33 ∨ lt_ t L p = 45 then ((pj (lt_ t L) f 5 (dp + 1) (p + 1)).1, (pj (lt_ t L) f 5 (dp + 1) (p + 1)).2.1, (pj (lt_ t L) f 5 (dp + 1) (p + 1)).2.2 ++ [if lt_ t L p = 45 then 126 else lt_ t L p]) else (true, p, [])) v' := by
        intro hs
        have hp : p < L := by
          rcases hs with z | z | z
          · exact eq_lt z (by decide)
          · exact eq_lt z (by decide)
          · exact eq_lt z (by decide)
        unfold fX10_one_b32
        rw [ms.2.2.2.2]
        by_cases h6 : dp = 6
        · subst h6
          rw [if_pos (by rfl), if_pos (Nat.le_refl 6), ms.wrong]
          exact ⟨0, _, rfl, mQ_si rfl, ⟨p, hpL, ms.2.1⟩, fun _ => rfl, fun z => (by cases z)⟩
        rw [if_neg (pl_ne (b := 6) h6), if_neg (by omega)]
        have r1 : (ab_si σ 0 0 21 (nI (dp + 1))).1 0 0 18 = nI p := ms.2.1
        simp only [pu_k, nI_1, r1]
        have ms3 : MS t L (ab_si (ab_si σ 0 0 21 (nI (dp + 1))) 0 0 18 (nI (p + 1))) (p + 1) (dp + 1) := ⟨(ms.1.mv (mQ_si rfl)).mv (mQ_si rfl), rfl, by omega, ms.2.2.2.1, rfl⟩
        have he3 : envM (ab_si (ab_si σ 0 0 21 (nI (dp + 1))) 0 0 18 (nI (p + 1))) = env := he
        have mq : mQ (ab_si (ab_si σ 0 0 21 (nI (dp + 1))) 0 0 18 (nI (p + 1))) = mQ σ := (mQ_si rfl).trans (mQ_si rfl)
        unfold fX10_one_b83 fX10_one_b104 fX10_one_b144
        by_cases h40 : lt_ t L p = 40
        · rw [h40]
          simp only [↓reduceIte]
          obtain ⟨v1, σ1, q1, q2⟩ := ih 0 (dp + 1) (p + 1) n _ (by omega) (by omega) (by omega) (by omega) ms3 he3
          have hg := pj_g (t := t) (L := L) f 0 (dp + 1) (p + 1) (by omega)
          rw [show fX10_either n (ab_si (ab_si σ 0 0 21 (nI (dp + 1))) 0 0 18 (nI (p + 1))) = some (v1, σ1) from q1, Option.bind_some]
          generalize hr : pj (lt_ t L) f 0 (dp + 1) (p + 1) = r at q2 hg
          obtain ⟨w, p1, cs⟩ := r
          dsimp only
          have hgL := hg.2.1
          dsimp only at hgL
          cases w with
          | true =>
            have hf := q2.2.2.1 rfl
            dsimp only at hf
            rw [takes_w hf (by omega), Option.bind_some, if_pos (show (0 : Int32) = 0 from rfl), wrong_w hf (by omega), if_pos rfl]
            exact ⟨0, _, rfl, (mQ_si rfl).trans (q2.1.trans mq), q2.2.1, fun _ => rfl, fun z => (by cases z)⟩
          | false =>
            have ms4 := q2.ms ms3 rfl hgL
            dsimp only at ms4
            rw [ms4.takes (by decide) (by decide), if_neg Bool.false_ne_true]
            by_cases h41 : lt_ t L p1 = 41
            · rw [if_pos h41, if_pos h41, Option.bind_some, if_neg pu_10]
              have hp1 := eq_lt h41 (by decide)
              have r5 : (ab_si σ1 0 0 18 (nI (p1 + 1))).1 0 0 21 = nI (dp + 1) := ms4.2.2.2.2
              rw [r5, nI_pred]
              obtain ⟨-, -, -, u4⟩ := q2.2.2.2 rfl
              exact ⟨v1, _, rfl, (mQ_si rfl).trans ((mQ_si rfl).trans (q2.1.trans mq)), ⟨p1 + 1, by omega, rfl⟩, fun z => (by cases z), fun _ => ⟨ms4.2.2.2.1, rfl, rfl, u4⟩⟩
            · rw [if_neg h41, if_neg h41, Option.bind_some, if_pos (show (0 : Int32) = 0 from rfl), ms4.wrong]
              exact ⟨0, _, rfl, (mQ_si rfl).trans (q2.1.trans mq), ⟨p1, hgL, ms4.2.1⟩, fun _ => rfl, fun z => (by cases z)⟩
        · have hs2 : lt_ t L p = 33 ∨ lt_ t L p = 45 := by
            rcases hs with z | z | z
            · exact Or.inl z
            · exact Or.inr z
            · exact absurd z h40
          rw [if_neg h40, if_neg h40, if_pos hs2]
          obtain ⟨v1, σ1, q1, q2⟩ := ih 5 (dp + 1) (p + 1) n _ (by omega) (by omega) (by omega) (by omega) ms3 he3
          have hg := pj_g (t := t) (L := L) f 5 (dp + 1) (p + 1) (by omega)
          rw [show fX10_one n (ab_si (ab_si σ 0 0 21 (nI (dp + 1))) 0 0 18 (nI (p + 1))) = some (v1, σ1) from q1, Option.bind_some, if_neg h40]
          simp only [pu_k]
          rw [if_neg h40]
          have mk : ∀ v' : Int32, (∀ rest st, mach env ((if lt_ t L p = 45 then 126 else lt_ t L p) :: rest) false (v1 :: st) = mach env rest false (v' :: st)) → MP L σ (ab_si σ1 0 0 21 (σ1.1 0 0 21 - 1)) env dp ((pj (lt_ t L) f 5 (dp + 1) (p + 1)).1, (pj (lt_ t L) f 5 (dp + 1) (p + 1)).2.1, (pj (lt_ t L) f 5 (dp + 1) (p + 1)).2.2 ++ [if lt_ t L p = 45 then 126 else lt_ t L p]) v' := by
            intro v' hv
            refine ⟨(mQ_si rfl).trans (q2.1.trans mq), q2.2.1, fun z => q2.2.2.1 z, fun z => ?_⟩
            obtain ⟨u1, u2, u3, u4⟩ := q2.2.2.2 z
            refine ⟨u1, u2, ?_, fun rest st => ?_⟩
            · rw [pu_siE, u3, nI_pred]
            · dsimp only
              rw [List.append_assoc, u4]
              exact hv rest st
          rcases hs2 with e | e
          · by_cases hz : v1 = 0
            · rw [if_neg (by rw [e]; decide), if_pos hz]
              refine ⟨1, _, rfl, mk 1 (fun rest st => ?_)⟩
              rw [e, if_neg (by decide), hz]; rfl
            · rw [if_neg (by rw [e]; decide), if_neg hz]
              refine ⟨0, _, rfl, mk 0 (fun rest st => ?_)⟩
              rw [e, if_neg (by decide)]
              show mach env rest false ((if v1 = 0 then 1 else 0) :: st) = _
              rw [if_neg hz]
          · rw [if_pos e]
            refine ⟨-v1, _, rfl, mk (-v1) (fun rest st => ?_)⟩
            rw [if_pos e]; rfl
      by_cases hs : lt_ t L p = 33 ∨ lt_ t L p = 45 ∨ lt_ t L p = 40
      · obtain ⟨v', σ', y1, y2⟩ := b32 hs
        have hp : p < L := by
          rcases hs with z | z | z
          · exact eq_lt z (by decide)
          · exact eq_lt z (by decide)
          · exact eq_lt z (by decide)
        refine ⟨v', σ', ?_, y2⟩
        rw [bt_lt hp]
        rcases hs with e | e | e
        · rw [if_pos e]; exact y1
        · rw [if_neg (by rw [e]; decide), if_pos e]; exact y1
        · rw [if_neg (by rw [e]; decide), if_neg (by rw [e]; decide), if_pos e]; exact y1
      · have hs1 : ¬ lt_ t L p = 33 := fun z => hs (Or.inl z)
        have hs2 : ¬ lt_ t L p = 45 := fun z => hs (Or.inr (Or.inl z))
        have hs3 : ¬ lt_ t L p = 40 := fun z => hs (Or.inr (Or.inr z))
        have hb : ¬ isNm (bt_ t L p) = true := by
          intro z
          have hp : p < L := by
            rcases Nat.lt_or_ge p L with q | q
            · exact q
            · exfalso
              unfold bt_ at z
              rw [if_neg (by omega)] at z
              exact absurd z (by decide)
          rw [bt_lt hp] at z
          exact hnm z
        rw [if_neg (fun z => hs1 ((bt_eq (by decide) (by decide)).mp z)), if_neg (fun z => hs2 ((bt_eq (by decide) (by decide)).mp z)), if_neg (fun z => hs3 ((bt_eq (by decide) (by decide)).mp z)), nm_no hb, Option.bind_some, if_pos (by decide)]
        have res : (if 6 ≤ dp then ((true, p, []) : PR) else if lt_ t L p = 40 then (if (pj (lt_ t L) f 0 (dp + 1) (p + 1)).1 = true then pj (lt_ t L) f 0 (dp + 1) (p + 1) else if lt_ t L (pj (lt_ t L) f 0 (dp + 1) (p + 1)).2.1 = 41 then (false, (pj (lt_ t L) f 0 (dp + 1) (p + 1)).2.1 + 1, (pj (lt_ t L) f 0 (dp + 1) (p + 1)).2.2) else (true, (pj (lt_ t L) f 0 (dp + 1) (p + 1)).2)) else if lt_ t L p = 33 ∨ lt_ t L p = 45 then ((pj (lt_ t L) f 5 (dp + 1) (p + 1)).1, (pj (lt_ t L) f 5 (dp + 1) (p + 1)).2.1, (pj (lt_ t L) f 5 (dp + 1) (p + 1)).2.2 ++ [if lt_ t L p = 45 then 126 else lt_ t L p]) else (true, p, [])) = (true, p, []) := by
          by_cases h6 : 6 ≤ dp
          · rw [if_pos h6]
          · rw [if_neg h6, if_neg hs3, if_neg (fun z => z.elim hs1 hs2)]
        rw [res]
        show ∃ v' σ', fX10_one_b176_o _ _ _ _ _ _ _ _ _ _ = some (v', σ') ∧ _
        unfold fX10_one_b176_o fX10_one_b229 fX10_one_b242
        rw [if_neg (by decide), ms.byte]
        simp only [Option.bind_some, ↓reduceIte]
        rw [ms.wrong]
        rw [← bt_dg] at hd
        refine ⟨0, ab_si σ 0 0 20 (nI p), ?_, mQ_si rfl, ⟨p, hpL, ms.2.1⟩, fun _ => rfl, fun z => (by cases z)⟩
        by_cases c1 : bt_ t L p < 48
        · rw [if_pos c1]; rfl
        · rw [if_neg c1, if_pos (by
            simp only [isDg, Bool.and_eq_true, decide_eq_true_eq, not_and] at hd
            exact Classical.byContradiction (fun z => hd c1 z))]; rfl
end
