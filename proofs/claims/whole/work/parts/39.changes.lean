/-! PURE, 9: mend, undo, redo -/
def tlP : Nat → Nat → Bool := fun r j => decide (r = 2) || (decide (r = 1) && !decide (j = 3))
/-- telling a weight, the host, A -/
theorem tl_w {σ : ab_S} {n j : Nat} {v : Int32} (hn : σ.1 1 0 3 = nI n) (hj : j < n) (h5 : n ≤ 5) : fX7_tell (nI j) 0 v σ = some (ab_si (ab_si (ab_si σ 2 0 j v) 1 0 6 (σ.1 1 0 6 + 1)) 1 0 6 (σ.1 1 0 6 + 1 + 1)) := by
  unfold fX7_tell fX7_weigh fX7_tell_b32
  rw [if_neg (by decide), if_neg (by decide), pu_has_yes hn hj, Option.bind_some, if_neg pu_10, if_pos (inb_nI (by omega)), cl_nI]
  rfl
theorem tl_h {σ : ab_S} {x v : Int32} : fX7_tell x 1 v σ = some (ab_si (ab_si σ 1 0 4 v) 1 0 6 (σ.1 1 0 6 + 1)) := rfl
theorem tl_a {σ : ab_S} {x v : Int32} : fX7_tell x 2 v σ = some (ab_si (ab_si σ 1 0 5 v) 1 0 6 (σ.1 1 0 6 + 1)) := rfl
/-- what one telling does to both sides: the relation of stage and caches -/
theorem tl_x {i n : Nat} {σc σm : ab_S} {num what bef aft at_ was is_ v : Int32} (hst : R_st n σc σm) (hbs : R_bs i n σc) (n5 : n ≤ 5) (hE : ChE n num what bef aft at_ was is_) (hv : v = bef ∨ v = aft) :
    ∃ X : ab_S, fX7_tell num what v σc = some (ov tlP σc X) ∧ ab_inb at_ 7 = true ∧ R_st n (ov tlP σc X) (ab_si σm 1 0 at_.toNatClampNeg v) ∧ R_bs (i + 6) n (ov tlP σc X) := by
  obtain ⟨s1, s2, s3, s4, s5, s6, s7⟩ := hst
  obtain ⟨c1, c2, hc⟩ := hE
  rcases hc with ⟨e1, e2, ⟨j, hj, e3⟩, e4, e5⟩ | ⟨e1, e2, e4, e5⟩ | ⟨e1, e2, e4, e5⟩
  · subst e1 e2 e3
    rw [tl_w s1 hj n5, cl_nI]
    have hvv : isN 13 v := by rcases hv with rfl | rfl <;> assumption
    refine ⟨_, congrArg some (ov_eq rfl (fun r k i hP => ?_)), inb_nI (by omega), ?_, ?_⟩
    · show (if r = 1 ∧ k = 0 ∧ i = 6 then _ else if r = 1 ∧ k = 0 ∧ i = 6 then _ else if r = 2 ∧ k = 0 ∧ i = j then _ else σc.1 r k i) = _
      rw [if_neg (by rintro ⟨rfl, -, rfl⟩; simp [tlP] at hP), if_neg (by rintro ⟨rfl, -, rfl⟩; simp [tlP] at hP), if_neg (by rintro ⟨rfl, -, -⟩; simp [tlP] at hP)]
    · refine ⟨s1, s2, fun d hd => ?_, s4, ⟨s5.1, ?_⟩, s6, ?_⟩
      · show isN 13 ((ab_si σc 2 0 j v).1 2 0 d) ∧ (ab_si σm 1 0 j v).1 1 0 d = (ab_si σc 2 0 j v).1 2 0 d
        by_cases hdj : d = j
        · subst hdj
          rw [pu_siE, pu_siE]
          exact ⟨hvv, rfl⟩
        · rw [pu_siJ hdj, pu_siJ hdj]
          exact s3 d hd
      · show (ab_si σm 1 0 j v).1 1 0 5 = σc.1 1 0 4
        rw [pu_siJ (by omega)]
        exact s5.2
      · show (ab_si σm 1 0 j v).1 1 0 6 = σc.1 1 0 5
        rw [pu_siJ (by omega)]
        exact s7
    · refine bs_age hbs 2 (by omega) (by omega) (fun g hg => ?_) (fun h => rfl)
      show σc.1 1 0 6 + 1 + 1 = _
      rw [hg, nI_1, nI_1]
  · subst e1 e2
    rw [tl_h]
    have hvv : isN 4 v := by rcases hv with rfl | rfl <;> assumption
    refine ⟨_, congrArg some (ov_eq rfl (fun r k i hP => ?_)), rfl, ?_, ?_⟩
    · show (if r = 1 ∧ k = 0 ∧ i = 6 then _ else if r = 1 ∧ k = 0 ∧ i = 4 then _ else σc.1 r k i) = _
      rw [if_neg (by rintro ⟨rfl, -, rfl⟩; simp [tlP] at hP), if_neg (by rintro ⟨rfl, -, rfl⟩; simp [tlP] at hP)]
    · refine ⟨s1, s2, fun d hd => ⟨(s3 d hd).1, ?_⟩, s4, ⟨hvv, rfl⟩, s6, s7⟩
      show (ab_si σm 1 0 5 v).1 1 0 d = σc.1 2 0 d
      rw [pu_siJ (by omega)]
      exact (s3 d hd).2
    · refine bs_age hbs 1 (by omega) (by omega) (fun g hg => ?_) (fun h => rfl)
      show σc.1 1 0 6 + 1 = _
      rw [hg, nI_1]
  · subst e1 e2
    rw [tl_a]
    have hvv : ∃ a, 1 ≤ a ∧ a ≤ 3 ∧ v = nI a := by rcases hv with rfl | rfl <;> assumption
    refine ⟨_, congrArg some (ov_eq rfl (fun r k i hP => ?_)), rfl, ?_, ?_⟩
    · show (if r = 1 ∧ k = 0 ∧ i = 6 then _ else if r = 1 ∧ k = 0 ∧ i = 5 then _ else σc.1 r k i) = _
      rw [if_neg (by rintro ⟨rfl, -, rfl⟩; simp [tlP] at hP), if_neg (by rintro ⟨rfl, -, rfl⟩; simp [tlP] at hP)]
    · refine ⟨s1, s2, fun d hd => ⟨(s3 d hd).1, ?_⟩, s4, s5, hvv, rfl⟩
      show (ab_si σm 1 0 6 v).1 1 0 d = σc.1 2 0 d
      rw [pu_siJ (by omega)]
      exact (s3 d hd).2
    · refine bs_age hbs 1 (by omega) (by omega) (fun g hg => ?_) (fun h => rfl)
      show σc.1 1 0 6 + 1 = _
      rw [hg, nI_1]
section
variable {i : Nat} {σc σm : ab_S}
theorem pp_undo (h : Rel i σc σm) (hi : i ≤ 3072) : ∃ (r : Int32) (σc1 : ab_S) (σm1 : ab_S), fX9_undo σc = some (r, σc1) ∧ fX10_undo σm = some (r, σm1) ∧ Rel (i + 6) σc1 σm1 := by
  have h0 := Rel_mono h
  obtain ⟨n, b, n2, n5, hst, hev, him, hch, htp, hlw, hgv, hbs, hbd, hsh⟩ := h
  obtain ⟨d, a, hda, ha, c1, c2, c3, c4, hE⟩ := id hch
  unfold fX9_undo fX10_undo fX2_takeBack
  rw [c1, c3]
  by_cases hd : d = 0
  · subst hd
    exact ⟨-5, σc, σm, rfl, rfl, h0⟩
  · obtain ⟨d, rfl⟩ : ∃ e, d = e + 1 := ⟨d - 1, by omega⟩
    rw [if_pos (pr_lt (b := 0) (by omega)), if_neg (pl_ne (b := 0) (by omega)), nI_pred]
    simp only [pu_k, pu_siE, inb_nI (show d < 40 by omega), cl_nI (d := d) (by omega), ↓reduceIte]
    obtain ⟨X, q1, q2, q3, q4⟩ := tl_x (σc := ab_si σc 13 0 4 (nI d)) (σm := ab_si σm 0 0 5 (nI d)) hst hbs n5 (hE d (by omega)) (Or.inl rfl)
    have r1 : (ab_si σc 13 0 4 (nI d)).1 14 0 d = σc.1 14 0 d := rfl
    have r2 : (ab_si σc 13 0 4 (nI d)).1 15 0 d = σc.1 15 0 d := rfl
    have r3 : (ab_si σc 13 0 4 (nI d)).1 16 0 d = σc.1 16 0 d := rfl
    have r4 : (ab_si σm 0 0 5 (nI d)).1 2 0 d = σm.1 2 0 d := rfl
    have r5 : (ab_si σm 0 0 5 (nI d)).1 3 0 d = σm.1 3 0 d := rfl
    rw [r1, r2, r3, q1, r4, r5, q2, (hE d (by omega)).1]
    refine ⟨nI d, _, _, rfl, rfl, n, b, n2, n5, q3, hev, R_im_mono him, ⟨d, a, by omega, ha, rfl, c2, rfl, c4, hE⟩, htp, hlw, hgv, q4, hbd, hsh⟩
theorem pp_redo (h : Rel i σc σm) (hi : i ≤ 3072) : ∃ (r : Int32) (σc1 : ab_S) (σm1 : ab_S), fX9_redo σc = some (r, σc1) ∧ fX10_redo σm = some (r, σm1) ∧ Rel (i + 6) σc1 σm1 := by
  have h0 := Rel_mono h
  obtain ⟨n, b, n2, n5, hst, hev, him, hch, htp, hlw, hgv, hbs, hbd, hsh⟩ := h
  obtain ⟨d, a, hda, ha, c1, c2, c3, c4, hE⟩ := id hch
  unfold fX9_redo fX10_redo fX2_makeAgain fX2_makeAgain_b20
  rw [c1, c2, c3, c4]
  by_cases hd : d = a
  · subst hd
    rw [if_pos (pu_le (Nat.le_refl _)), if_pos rfl]
    exact ⟨-5, σc, σm, rfl, rfl, h0⟩
  · rw [if_neg (pu_nle (by omega)), if_neg (pu_ne hd), if_pos (pl_lt (b := 40) (by omega))]
    simp only [inb_nI (show d < 40 by omega), cl_nI (d := d) (by omega), ↓reduceIte]
    obtain ⟨X, q1, q2, q3, q4⟩ := tl_x hst hbs n5 (hE d (by omega)) (Or.inr rfl)
    rw [q1, q2, (hE d (by omega)).2.1]
    simp only [Option.bind_some, pu_k, ↓reduceIte]
    have r1 : (ov tlP σc X).1 13 0 4 = nI d := c1
    have r2 : (ab_si σm 1 0 ((σm.1 2 0 d).toNatClampNeg) (σc.1 17 0 d)).1 0 0 5 = nI d := c3
    rw [r1, r2, nI_1]
    have r3 : (ab_si (ov tlP σc X) 13 0 4 (nI (d + 1))).1 13 0 5 = nI a := c2
    have r4 : (ab_si (ab_si σm 1 0 ((σm.1 2 0 d).toNatClampNeg) (σc.1 17 0 d)) 0 0 5 (nI (d + 1))).1 0 0 4 = nI a := c4
    rw [r3, r4, pu_siE, pu_siE]
    refine ⟨nI a - nI (d + 1), _, _, rfl, rfl, n, b, n2, n5, q3, hev, R_im_mono him, ⟨d + 1, a, by omega, ha, rfl, c2, rfl, c4, hE⟩, htp, hlw, hgv, q4, hbd, hsh⟩
/-- a change is kept: the class's side -/
theorem ad_c {d : Nat} (hd : d ≤ 40) (c1 : σc.1 13 0 4 = nI d) (num what was v : Int32) : ∃ X : ab_S, fX2_add num what was v σc = some (ov (fun r _ => decide (13 ≤ r) && decide (r ≤ 17)) σc X) ∧
    ∃ e o, e ≤ 39 ∧ (d < 40 → e = d ∧ o = 0) ∧ (d = 40 → e = 39 ∧ o = 1) ∧ X.1 13 0 4 = nI (e + 1) ∧ X.1 13 0 5 = nI (e + 1) ∧ X.1 14 0 e = num ∧ X.1 15 0 e = what ∧ X.1 16 0 e = was ∧ X.1 17 0 e = v ∧ ∀ k, k < e → X.1 14 0 k = σc.1 14 0 (k + o) ∧ X.1 15 0 k = σc.1 15 0 (k + o) ∧ X.1 16 0 k = σc.1 16 0 (k + o) ∧ X.1 17 0 k = σc.1 17 0 (k + o) := by
  have b13 : ∀ (e : Nat) (σ : ab_S), e < 40 → σ.1 13 0 4 = nI e → fX2_add_b13 num what was v σ = some (ab_si (ab_si (ab_si (ab_si (ab_si (ab_si σ 14 0 e num) 15 0 e what) 16 0 e was) 17 0 e v) 13 0 4 (nI (e + 1))) 13 0 5 (nI (e + 1))) := by
    intro e σ he h4
    unfold fX2_add_b13
    have r1 : (ab_si σ 14 0 e num).1 13 0 4 = nI e := h4
    have r2 : (ab_si (ab_si σ 14 0 e num) 15 0 e what).1 13 0 4 = nI e := h4
    have r3 : (ab_si (ab_si (ab_si σ 14 0 e num) 15 0 e what) 16 0 e was).1 13 0 4 = nI e := h4
    have r4 : (ab_si (ab_si (ab_si (ab_si σ 14 0 e num) 15 0 e what) 16 0 e was) 17 0 e v).1 13 0 4 = nI e := h4
    simp only [pu_k, h4, inb_nI he, cl_nI (d := e) (by omega), ↓reduceIte, r1, r2, r3, r4, nI_1, pu_siE]
  unfold fX2_add
  rw [c1]
  by_cases h40 : d = 40
  · subst h40
    rw [if_neg (by decide)]
    have dr : fX2_dropOldest σc = some (ab_si (ab_ci (ab_ci (ab_ci (ab_ci σc 14 0 1 14 0 0 39) 15 0 1 15 0 0 39) 16 0 1 16 0 0 39) 17 0 1 17 0 0 39) 13 0 4 39) := rfl
    rw [dr, Option.bind_some, b13 39 _ (by omega) rfl]
    refine ⟨_, congrArg some (ov_eq rfl (fun r k i hP => ?_)), 39, 1, by omega, fun h => by omega, fun _ => ⟨rfl, rfl⟩, rfl, rfl, ?_, ?_, ?_, ?_, fun k hk => ?_⟩
    · have hr : ¬ (13 ≤ r ∧ r ≤ 17) := by simpa using hP
      simp only [ab_si, ab_ci]
      rw [if_neg (by omega), if_neg (by omega), if_neg (by omega), if_neg (by omega), if_neg (by omega), if_neg (by omega), if_neg (by omega), if_neg (by omega), if_neg (by omega), if_neg (by omega), if_neg (by omega)]
    · rfl
    · rfl
    · rfl
    · rfl
    · have key : ∀ (F : Nat → Int32) (w : Int32), (if k = 39 then w else if 0 ≤ k ∧ k < 0 + 39 then F (1 + (k - 0)) else F k) = F (k + 1) := fun F w => by
        rw [if_neg (by omega), if_pos (by omega), show 1 + (k - 0) = k + 1 by omega]
      refine ⟨?_, ?_, ?_, ?_⟩
      · rw [← key (fun j => σc.1 14 0 j) num]; simp [ab_si, ab_ci]
      · rw [← key (fun j => σc.1 15 0 j) what]; simp [ab_si, ab_ci]
      · rw [← key (fun j => σc.1 16 0 j) was]; simp [ab_si, ab_ci]
      · rw [← key (fun j => σc.1 17 0 j) v]; simp [ab_si, ab_ci]
  · rw [if_pos (pl_lt (b := 40) (by omega)), b13 d σc (by omega) c1]
    refine ⟨_, congrArg some (ov_eq rfl (fun r k i hP => ?_)), d, 0, by omega, fun h => ⟨rfl, rfl⟩, fun h => by omega, rfl, rfl, ?_, ?_, ?_, ?_, fun k hk => ?_⟩
    · have hr : ¬ (13 ≤ r ∧ r ≤ 17) := by simpa using hP
      simp only [ab_si]
      rw [if_neg (by omega), if_neg (by omega), if_neg (by omega), if_neg (by omega), if_neg (by omega), if_neg (by omega)]
    · exact if_pos ⟨rfl, rfl, rfl⟩
    · exact if_pos ⟨rfl, rfl, rfl⟩
    · exact if_pos ⟨rfl, rfl, rfl⟩
    · exact if_pos ⟨rfl, rfl, rfl⟩
    · exact ⟨if_neg (by omega), if_neg (by omega), if_neg (by omega), if_neg (by omega)⟩
theorem ad_mL (v1 v2 v3 : Int32) : ∀ (k j fuel : Nat) (σ : ab_S), 1 ≤ j → j + k = 40 → k < fuel → ∃ σ', fX10_becomes_b26 fuel v1 v2 v3 (nI j) σ = fX10_becomes_b97 v1 v2 v3 (ab_si σ' 0 0 5 (σ'.1 0 0 5 - 1)) ∧ σ'.2 = σ.2 ∧ (∀ r c e, ¬ (2 ≤ r ∧ r ≤ 4) → σ'.1 r c e = σ.1 r c e) ∧ (∀ r e, e + 1 < j → σ'.1 r 0 e = σ.1 r 0 e) ∧ (∀ r e, 2 ≤ r → r ≤ 4 → j ≤ e + 1 → e + 1 < 40 → σ'.1 r 0 e = σ.1 r 0 (e + 1)) := by
  intro k
  induction k with
  | zero =>
    intro j fuel σ h0 h1 h2
    obtain ⟨f, rfl⟩ : ∃ f, fuel = f + 1 := ⟨fuel - 1, by omega⟩
    refine ⟨σ, ?_, rfl, fun r c e _ => rfl, fun r e _ => rfl, fun r e _ _ h3 h4 => by omega⟩
    show fX10_becomes_b26_o _ _ _ _ _ _ = _
    unfold fX10_becomes_b26_o
    rw [if_pos (pr_le (b := 40) (by omega)), pu_k]
  | succ k ih =>
    intro j fuel σ h0 h1 h2
    obtain ⟨f, rfl⟩ : ∃ f, fuel = f + 1 := ⟨fuel - 1, by omega⟩
    obtain ⟨j, rfl⟩ : ∃ e, j = e + 1 := ⟨j - 1, by omega⟩
    obtain ⟨σ', q1, q2, q3, q4, q5⟩ := ih (j + 1 + 1) f (ab_si (ab_si (ab_si σ 2 0 j (σ.1 2 0 (j + 1))) 3 0 j (σ.1 3 0 (j + 1))) 4 0 j (σ.1 4 0 (j + 1))) (by omega) (by omega) (by omega)
    refine ⟨σ', ?_, q2, fun r c e h => ?_, fun r e h => ?_, fun r e h5 h6 h3 h4 => ?_⟩
    · show fX10_becomes_b26_o _ _ _ _ _ _ = _
      unfold fX10_becomes_b26_o
      rw [if_neg (pr_nle (b := 40) (by omega)), nI_pred]
      have r1 : (ab_si σ 2 0 j (σ.1 2 0 (j + 1))).1 3 0 (j + 1) = σ.1 3 0 (j + 1) := rfl
      have r2 : (ab_si (ab_si σ 2 0 j (σ.1 2 0 (j + 1))) 3 0 j (σ.1 3 0 (j + 1))).1 4 0 (j + 1) = σ.1 4 0 (j + 1) := rfl
      simp only [pu_k, inb_nI (show j + 1 < 40 by omega), inb_nI (show j < 40 by omega), cl_nI (d := j + 1) (by omega), cl_nI (d := j) (by omega), ↓reduceIte, nI_1, r1, r2]
      exact q1
    · rw [q3 r c e h]
      simp only [ab_si]
      rw [if_neg (by omega), if_neg (by omega), if_neg (by omega)]
    · rw [q4 r e (by omega)]
      simp only [ab_si]
      rw [if_neg (by omega), if_neg (by omega), if_neg (by omega)]
    · by_cases hej : e = j
      · subst hej
        rw [q4 r e (by omega)]
        rcases (show r = 2 ∨ r = 3 ∨ r = 4 by omega) with rfl | rfl | rfl <;> simp [ab_si]
      · rw [q5 r e h5 h6 (by omega) h4]
        simp only [ab_si]
        rw [if_neg (by omega), if_neg (by omega), if_neg (by omega)]
/-- the reference's side -/
theorem ad_m {d : Nat} (hd : d ≤ 40) (c3 : σm.1 0 0 5 = nI d) (at_ v : Int32) (hat : ab_inb at_ 7 = true) (hne : ¬ σm.1 1 0 at_.toNatClampNeg = v) : ∃ X : ab_S, fX10_becomes at_ v σm = some (σm.1 1 0 at_.toNatClampNeg, ab_si (ov (fun r j => (decide (2 ≤ r) && decide (r ≤ 4)) || (decide (r = 0) && (decide (j = 4) || decide (j = 5)))) σm X) 1 0 at_.toNatClampNeg v) ∧
    ∃ e o, e ≤ 39 ∧ (d < 40 → e = d ∧ o = 0) ∧ (d = 40 → e = 39 ∧ o = 1) ∧ X.1 0 0 5 = nI (e + 1) ∧ X.1 0 0 4 = nI (e + 1) ∧ X.1 2 0 e = at_ ∧ X.1 3 0 e = σm.1 1 0 at_.toNatClampNeg ∧ X.1 4 0 e = v ∧ ∀ k, k < e → X.1 2 0 k = σm.1 2 0 (k + o) ∧ X.1 3 0 k = σm.1 3 0 (k + o) ∧ X.1 4 0 k = σm.1 4 0 (k + o) := by
  have b97 : ∀ (w : Int32) (e : Nat) (σ : ab_S), e < 40 → σ.1 0 0 5 = nI e → fX10_becomes_b97 at_ v w σ = some (w, ab_si (ab_si (ab_si (ab_si (ab_si (ab_si σ 2 0 e at_) 3 0 e w) 4 0 e v) 0 0 5 (nI (e + 1))) 0 0 4 (nI (e + 1))) 1 0 at_.toNatClampNeg v) := by
    intro w e σ he h4
    unfold fX10_becomes_b97
    have r1 : (ab_si σ 2 0 e at_).1 0 0 5 = nI e := h4
    have r2 : (ab_si (ab_si σ 2 0 e at_) 3 0 e w).1 0 0 5 = nI e := h4
    have r3 : (ab_si (ab_si (ab_si σ 2 0 e at_) 3 0 e w) 4 0 e v).1 0 0 5 = nI e := h4
    simp only [pu_k, h4, inb_nI he, cl_nI (d := e) (by omega), ↓reduceIte, r1, r2, r3, nI_1, pu_siE, hat]
  unfold fX10_becomes
  rw [if_pos hat, if_neg hne, c3]
  by_cases h40 : d = 40
  · subst h40
    rw [if_pos (by rfl)]
    obtain ⟨σ', q1, q2, q3, -, q5⟩ := ad_mL at_ v (σm.1 1 0 at_.toNatClampNeg) 39 1 ab_N σm (by omega) (by omega) (by decide)
    have h5 : (ab_si σ' 0 0 5 (σ'.1 0 0 5 - 1)).1 0 0 5 = nI 39 := by
      rw [pu_siE, q3 0 0 5 (by omega), c3]
      rfl
    rw [show (1 : Int32) = nI 1 from rfl, q1, b97 _ 39 _ (by omega) h5]
    refine ⟨_, congrArg some (congrArg (Prod.mk _) (congrArg (fun z => ab_si z 1 0 at_.toNatClampNeg v) (ov_eq q2 (fun r k i hP => ?_)))), 39, 1, by omega, fun h => by omega, fun _ => ⟨rfl, rfl⟩, rfl, rfl, ?_, ?_, ?_, fun k hk => ?_⟩
    · have hr : ¬ (2 ≤ r ∧ r ≤ 4) ∧ ¬ (r = 0 ∧ (i = 4 ∨ i = 5)) := by simpa [not_or, not_and] using hP
      simp only [ab_si]
      rw [if_neg (by omega), if_neg (by omega), if_neg (by omega), if_neg (by omega), if_neg (by omega), if_neg (by omega)]
      exact q3 r k i hr.1
    · rfl
    · rfl
    · rfl
    · refine ⟨?_, ?_, ?_⟩
      · rw [← q5 2 k (by omega) (by omega) (by omega) (by omega)]
        exact if_neg (by omega)
      · rw [← q5 3 k (by omega) (by omega) (by omega) (by omega)]
        exact if_neg (by omega)
      · rw [← q5 4 k (by omega) (by omega) (by omega) (by omega)]
        exact if_neg (by omega)
  · rw [if_neg (pl_ne (b := 40) h40), b97 _ d σm (by omega) c3]
    refine ⟨_, congrArg some (congrArg (Prod.mk _) (congrArg (fun z => ab_si z 1 0 at_.toNatClampNeg v) (ov_eq rfl (fun r k i hP => ?_)))), d, 0, by omega, fun h => ⟨rfl, rfl⟩, fun h => by omega, rfl, rfl, ?_, ?_, ?_, fun k hk => ?_⟩
    · have hr : ¬ (2 ≤ r ∧ r ≤ 4) ∧ ¬ (r = 0 ∧ (i = 4 ∨ i = 5)) := by simpa [not_or, not_and] using hP
      simp only [ab_si]
      rw [if_neg (by omega), if_neg (by omega), if_neg (by omega), if_neg (by omega), if_neg (by omega)]
    · exact if_pos ⟨rfl, rfl, rfl⟩
    · exact if_pos ⟨rfl, rfl, rfl⟩
    · exact if_pos ⟨rfl, rfl, rfl⟩
    · exact ⟨if_neg (by omega), if_neg (by omega), if_neg (by omega)⟩
end
