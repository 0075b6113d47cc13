/-! PURE, 19: a whole law on the reference's side -/
theorem skp {env : Int32 → Int32} : ∀ (cs rest : List Int32) (st : List Int32), (∀ c, c ∈ cs → c ≠ 59) → mach env (cs ++ rest) true st = mach env rest true st
  | [], _, _, _ => rfl
  | c :: cs, rest, st, h => by
    show mach env (cs ++ rest) (!decide (c = 59)) st = _
    rw [decide_eq_false (h c List.mem_cons_self)]
    exact skp cs rest st (fun c' hc' => h c' (List.mem_cons_of_mem _ hc'))
section
variable {t : Nat → Int32} {L : Nat} {env : Int32 → Int32}
theorem n59_plp {next : Nat → PR} {lv : Nat} (hlv : lv < 5) (hn : ∀ p c, c ∈ (next p).2.2 → c ≠ 59) : ∀ (k : Nat) (r : PR), (∀ c, c ∈ r.2.2 → c ≠ 59) → ∀ c, c ∈ (plp next (isJ lv) (lt_ t L) k r).2.2 → c ≠ 59 := by
  intro k
  induction k with
  | zero => intro r h; exact h
  | succ k ih =>
    intro r h
    obtain ⟨w, p, cs⟩ := r
    unfold plp
    by_cases hw : w = true
    · rw [if_pos hw]; exact h
    · rw [if_neg hw]
      by_cases hj : isJ lv (lt_ t L p) = true
      · rw [if_pos hj]
        refine ih _ (fun c hc => ?_)
        dsimp only at hc
        simp only [List.mem_append, List.mem_singleton] at hc
        rcases hc with (hc | hc) | hc
        · exact h c hc
        · exact hn _ c hc
        · rw [hc]; exact (isJ_bin hlv hj).1
      · rw [if_neg hj]; exact h
theorem n59 : ∀ (f lv dp p : Nat) (c : Int32), c ∈ (pj (lt_ t L) f lv dp p).2.2 → c ≠ 59 := by
  intro f
  induction f with
  | zero => intro lv dp p c h; cases h
  | succ f ih =>
    intro lv dp p c h
    unfold pj at h
    by_cases hlv : lv < 5
    · rw [if_pos hlv] at h
      exact n59_plp hlv (fun p c hc => ih (lv + 1) dp p c hc) _ _ (fun c hc => ih (lv + 1) dp p c hc) c h
    rw [if_neg hlv] at h
    by_cases hd : isDg (lt_ t L p) = true
    · rw [if_pos hd] at h
      obtain ⟨w', w1, w2⟩ := pnm_v (q := lt_ t L) 4 p 0 0 (by omega) rfl (by decide)
      simp only [List.mem_singleton] at h
      rw [h, w1, show (1000 : Int32) = nI 1000 from rfl, nI_add]
      exact pl_ne (b := 59) (by omega)
    rw [if_neg hd] at h
    by_cases hn : isNm (lt_ t L p) = true
    · rw [if_pos hn] at h
      simp only [List.mem_singleton] at h
      obtain ⟨k, hk, k1, k2, k3, k4, k5, k6, k7⟩ := nm_yes hn
      rw [h]; exact k6
    rw [if_neg hn] at h
    by_cases h6 : 6 ≤ dp
    · rw [if_pos h6] at h; cases h
    rw [if_neg h6] at h
    by_cases h40 : lt_ t L p = 40
    · rw [if_pos h40] at h
      split at h
      · exact ih _ _ _ c h
      · split at h
        · exact ih _ _ _ c h
        · exact ih _ _ _ c h
    rw [if_neg h40] at h
    by_cases h33 : lt_ t L p = 33 ∨ lt_ t L p = 45
    · rw [if_pos h33] at h
      simp only [List.mem_append, List.mem_singleton] at h
      rcases h with h | h
      · exact ih _ _ _ c h
      · rw [h]
        rcases h33 with e | e
        · rw [e]; decide
        · rw [if_pos e]; decide
    · rw [if_neg h33] at h; cases h
/-- what has been read of a text, and what it gives so far -/
def SF (env : Int32 → Int32) (cs : List Int32) (given : Bool) (gives : Int32) : Prop := (given = false → gives = 0) ∧ ∀ rest, mach env (cs ++ rest) false [] = if given = true then gives else mach env rest false []
theorem SF.more {cs cs1 : List Int32} {given : Bool} {gives v : Int32} (h : SF env cs given gives) (holds : Bool) (h1 : ∀ rest, mach env (cs1 ++ rest) false [] = if holds = true then v else mach env rest false []) : SF env (cs ++ cs1) (given || holds) (if given = true then gives else if holds = true then v else gives) := by
  obtain ⟨h2, h3⟩ := h
  refine ⟨fun z => ?_, fun rest => ?_⟩
  · simp only [Bool.or_eq_false_iff] at z
    rw [z.1, z.2]
    simp only [Bool.false_eq_true, ↓reduceIte]
    exact h2 z.1
  · rw [List.append_assoc, h3, h1]
    cases given <;> cases holds <;> rfl
/-- the end of a run of workOut -/
def WE (L : Nat) (env : Int32 → Int32) (σ0 : ab_S) (r : PR) (v : Int32) (σ' : ab_S) : Prop :=
  mQ σ' = mQ σ0 ∧ ((r.1 = true ∨ r.2.1 < L) → σ'.1 0 0 20 = nI r.2.1) ∧ (¬ (r.1 = true ∨ r.2.1 < L) → σ'.1 0 0 20 = -1 ∧ v = mach env r.2.2 false [])
theorem wo_stopw {F p : Nat} {v3 v4 : Int32} {σ : ab_S} (h : σ.1 0 0 20 = nI p) (hp : p < 2 ^ 31) : fX10_workOut_b33 (F + 1) v3 v4 0 σ = some (v4, σ) := by
  show fX10_workOut_b33_o _ v3 v4 0 σ = _
  unfold fX10_workOut_b33_o fX10_workOut_b130
  rw [if_pos rfl, h, if_pos (pr_le (b := 0) (by omega))]
theorem wo_line {σ0 σ : ab_S} {p : Nat} (hm : mQ σ = mQ σ0) (he : envM σ0 = env) (ms : MS t L σ p 0) (given : Bool) (gives : Int32) (cs : List Int32) (hs : SF env cs given gives) (F : Nat) :
    ∃ (σ1 : ab_S) (given' : Bool) (gives' : Int32), fX10_workOut_b33 (F + 1) (if given = true then 1 else 0) gives 1 σ = (fX10_takes 59 σ1).bind (fun q1 => fX10_workOut_b33 F (if given' = true then 1 else 0) gives' q1.1 q1.2) ∧ mQ σ1 = mQ σ0 ∧ ((pln (lt_ t L) p).1 = true → σ1.1 0 0 20 = nI (pln (lt_ t L) p).2.1) ∧ ((pln (lt_ t L) p).1 = false → MS t L σ1 (pln (lt_ t L) p).2.1 0 ∧ SF env (cs ++ (pln (lt_ t L) p).2.2) given' gives') := by
  have hL := ms.1.1
  have hpL := ms.2.2.1
  have he1 : envM σ = env := (env_Q hm).trans he
  obtain ⟨v, σ1, q1, q2⟩ := pm_main (t := t) (L := L) (env := env) 64 0 0 p 64 σ (by omega) (by omega) (by omega) (by omega) ms he1
  have hg := pj_g (t := t) (L := L) 64 0 0 p hpL
  have hn59 := n59 (t := t) (L := L) 64 0 0 p
  show ∃ σ1 given' gives', fX10_workOut_b33_o (fX10_workOut_b33 F) (if given = true then 1 else 0) gives 1 σ = _ ∧ _
  unfold fX10_workOut_b33_o pln
  rw [if_neg pu_10, show fX10_either 64 σ = some (v, σ1) from q1, Option.bind_some]
  generalize hr : pj (lt_ t L) 64 0 0 p = r at q2 hg hn59
  obtain ⟨w, p1, cs1⟩ := r
  have hgL := hg.2.1
  dsimp only at hgL hn59 ⊢
  -- behind a line: what is kept of it
  have b74 : ∀ (v' : Int32) (holds : Bool) (σ2 : ab_S), (0 ≤ σ2.1 0 0 20 → ∃ g', fX10_workOut_b74 (fX10_workOut_b33 F) (if given = true then 1 else 0) gives v' (if holds = true then 1 else 0) σ2 = (fX10_takes 59 σ2).bind (fun q1 => fX10_workOut_b33 F (if given = true then 1 else 0) g' q1.1 q1.2)) ∧ (¬ 0 ≤ σ2.1 0 0 20 → fX10_workOut_b74 (fX10_workOut_b33 F) (if given = true then 1 else 0) gives v' (if holds = true then 1 else 0) σ2 = (fX10_takes 59 σ2).bind (fun q1 => fX10_workOut_b33 F (if (given || holds) = true then 1 else 0) (if given = true then gives else if holds = true then v' else gives) q1.1 q1.2)) := by
    intro v' holds σ2
    unfold fX10_workOut_b74 fX10_workOut_b96
    refine ⟨fun z => ⟨gives, by rw [if_pos z]⟩, fun z => ?_⟩
    rw [if_neg z]
    cases holds <;> cases given <;> rfl
  cases w with
  | true =>
    have hf := q2.2.2.1 rfl
    dsimp only at hf
    rw [takes_w hf (by omega), Option.bind_some, if_pos (show (0 : Int32) = 0 from rfl), if_pos rfl]
    obtain ⟨g', e⟩ := (b74 v true σ1).1 (by rw [hf]; exact pr_le (b := 0) (by omega))
    exact ⟨σ1, given, g', e, q2.1.trans hm, fun _ => hf, fun z => (by cases z)⟩
  | false =>
    have ms2 := q2.ms ms rfl hgL
    dsimp only at ms2
    have sem := (q2.2.2.2 rfl).2.2.2
    dsimp only at sem
    rw [ms2.takes (by decide) (by decide), if_neg Bool.false_ne_true]
    by_cases h63 : lt_ t L p1 = 63
    · have hp1 := eq_lt h63 (by decide)
      rw [if_pos h63, if_pos h63, Option.bind_some, if_neg pu_10]
      have ms3 := ms2.next hp1
      have m3 : mQ (ab_si σ1 0 0 18 (nI (p1 + 1))) = mQ σ0 := (mQ_si rfl).trans (q2.1.trans hm)
      obtain ⟨v2, σ2, z1, z2⟩ := pm_main (t := t) (L := L) (env := env) 64 0 0 (p1 + 1) 64 _ (by omega) (by omega) (by omega) (by omega) ms3 ((env_Q m3).trans he)
      have hg2 := pj_g (t := t) (L := L) 64 0 0 (p1 + 1) (by omega)
      have hn2 := n59 (t := t) (L := L) 64 0 0 (p1 + 1)
      have e66 : ∀ holds : Bool, fX10_workOut_b66 (fX10_workOut_b33 F) (if given = true then 1 else 0) gives (if holds = true then 1 else 0) (ab_si σ1 0 0 18 (nI (p1 + 1))) = fX10_workOut_b74 (fX10_workOut_b33 F) (if given = true then 1 else 0) gives v2 (if holds = true then 1 else 0) σ2 := fun holds => by
        unfold fX10_workOut_b66
        rw [show fX10_either 64 (ab_si σ1 0 0 18 (nI (p1 + 1))) = some (v2, σ2) from z1, Option.bind_some]
      have e0 : (if v = 0 then fX10_workOut_b66 (fX10_workOut_b33 F) (if given = true then 1 else 0) gives 0 (ab_si σ1 0 0 18 (nI (p1 + 1))) else fX10_workOut_b66 (fX10_workOut_b33 F) (if given = true then 1 else 0) gives 1 (ab_si σ1 0 0 18 (nI (p1 + 1)))) = fX10_workOut_b74 (fX10_workOut_b33 F) (if given = true then 1 else 0) gives v2 (if (!decide (v = 0)) = true then 1 else 0) σ2 := by
        rw [← e66]
        by_cases hv : v = 0
        · rw [if_pos hv, decide_eq_true hv]; rfl
        · rw [if_neg hv, decide_eq_false hv]; rfl
      rw [e0]
      generalize hr2 : pj (lt_ t L) 64 0 0 (p1 + 1) = r2 at z2 hg2 hn2
      obtain ⟨w2, p2, cs2⟩ := r2
      have hgL2 := hg2.2.1
      dsimp only at hgL2 hn2 ⊢
      cases w2 with
      | true =>
        have hf := z2.2.2.1 rfl
        dsimp only at hf
        obtain ⟨g', e⟩ := (b74 v2 (!decide (v = 0)) σ2).1 (by rw [hf]; exact pr_le (b := 0) (by omega))
        exact ⟨σ2, given, g', e, z2.1.trans m3, fun _ => hf, fun z => (by cases z)⟩
      | false =>
        have ms4 := z2.ms ms3 rfl hgL2
        dsimp only at ms4
        have sem2 := (z2.2.2.2 rfl).2.2.2
        dsimp only at sem2
        refine ⟨σ2, _, _, (b74 v2 (!decide (v = 0)) σ2).2 (by rw [ms4.2.2.2.1]; decide), z2.1.trans m3, fun z => (by cases z), fun _ => ⟨ms4, hs.more _ (fun rest => ?_)⟩⟩
        rw [List.append_assoc, sem]
        show mach env ((cs2 ++ [59]) ++ rest) (decide (v = 0)) [] = _
        by_cases hv : v = 0
        · rw [decide_eq_true hv, List.append_assoc, skp _ _ _ hn2]
          rfl
        · rw [decide_eq_false hv, List.append_assoc, sem2]
          rfl
    · rw [if_neg h63, if_neg h63, Option.bind_some, if_pos (show (0 : Int32) = 0 from rfl)]
      refine ⟨σ1, _, _, (b74 v true σ1).2 (by rw [ms2.2.2.2.1]; decide), q2.1.trans hm, fun z => (by cases z), fun _ => ⟨ms2, hs.more true (fun rest => ?_)⟩⟩
      rw [List.append_assoc, sem]
      rfl
theorem wo_L {σ0 : ab_S} (he : envM σ0 = env) : ∀ (k F p : Nat) (given : Bool) (gives : Int32) (cs : List Int32) (σ : ab_S), L < p + k → L + 1 < p + F → mQ σ = mQ σ0 → MS t L σ p 0 → SF env cs given gives →
    ∃ v σ', fX10_workOut_b33 F (if given = true then 1 else 0) gives 1 σ = some (v, σ') ∧ WE L env σ0 (prd (lt_ t L) k ((pln (lt_ t L) p).1, (pln (lt_ t L) p).2.1, cs ++ (pln (lt_ t L) p).2.2)) v σ' := by
  intro k
  induction k with
  | zero => intro F p given gives cs σ h1 h2 hm ms hs; have := ms.2.2.1; omega
  | succ k ih =>
    intro F p given gives cs σ h1 h2 hm ms hs
    have hpL := ms.2.2.1
    have hL := ms.1.1
    obtain ⟨F, rfl⟩ : ∃ f, F = f + 1 + 1 := ⟨F - 2, by omega⟩
    obtain ⟨σ1, given', gives', e1, e2, e3, e4⟩ := wo_line hm he ms given gives cs hs (F + 1)
    have hg := pln_g (t := t) (L := L) (p := p) hpL
    rw [e1]
    generalize pln (lt_ t L) p = r at e3 e4 hg
    obtain ⟨w, p1, cs1⟩ := r
    have hgL := hg.2.1
    have hg1 := hg.1
    dsimp only at e3 e4 hgL hg1 ⊢
    unfold prd
    cases w with
    | true =>
      have hf := e3 rfl
      rw [if_pos rfl, takes_w hf (by omega), Option.bind_some, wo_stopw hf (by omega)]
      exact ⟨gives', σ1, rfl, e2, fun _ => hf, fun z => absurd (Or.inl rfl) z⟩
    | false =>
      obtain ⟨ms2, sf⟩ := e4 rfl
      rw [if_neg Bool.false_ne_true, ms2.takes (by decide) (by decide)]
      by_cases h59 : lt_ t L p1 = 59
      · have hp1 := eq_lt h59 (by decide)
        rw [if_pos h59, if_pos h59, Option.bind_some]
        have := ih (F + 1) (p1 + 1) given' gives' (cs ++ cs1) (ab_si σ1 0 0 18 (nI (p1 + 1))) (by omega) (by omega) ((mQ_si rfl).trans e2) (ms2.next hp1) sf
        exact this
      · rw [if_neg h59, if_neg h59, Option.bind_some]
        show ∃ v σ', fX10_workOut_b33_o _ _ gives' 0 σ1 = _ ∧ _
        unfold fX10_workOut_b33_o fX10_workOut_b130
        rw [if_pos rfl, ms2.2.2.2.1, if_neg (by decide), ms2.1.2.1, ms2.2.1]
        by_cases hq : p1 < L
        · rw [if_neg (pu_nle hq), ms2.wrong]
          exact ⟨0, _, rfl, (mQ_si rfl).trans e2, fun _ => rfl, fun z => absurd (Or.inr hq) z⟩
        · rw [if_pos (pu_le (by omega))]
          refine ⟨gives', σ1, rfl, e2, fun z => ?_, fun _ => ⟨ms2.2.2.2.1, ?_⟩⟩
          · rcases z with z | z
            · cases z
            · exact absurd z hq
          · have := sf.2 []
            rw [List.append_nil] at this
            dsimp only
            rw [this]
            cases hgv : given' with
            | true => rfl
            | false => rw [hgv] at sf; rw [sf.1 rfl]; rfl
/-- the whole of it -/
theorem wo_ok {σ : ab_S} {B : Int32} (hL : L ≤ 120) (hB : (B = -1 ∧ ∀ k, k < L → σ.1 8 0 k = t k) ∨ (∃ b, b ≤ 360 ∧ B = nI b ∧ ∀ k, k < L → σ.1 9 0 (b + k) = t k)) : ∃ v σ', fX10_workOut B (nI L) σ = some (v, σ') ∧ (mG σ' = mG σ ∧ σ'.1 11 = σ.1 11) ∧ (((rd_ (lt_ t L)).1 = true ∨ (rd_ (lt_ t L)).2.1 < L) → σ'.1 0 0 20 = nI (rd_ (lt_ t L)).2.1) ∧ (¬ ((rd_ (lt_ t L)).1 = true ∨ (rd_ (lt_ t L)).2.1 < L) → σ'.1 0 0 20 = -1 ∧ v = mach (envM σ) (rd_ (lt_ t L)).2.2 false []) := by
  unfold fX10_workOut
  simp only [pu_k]
  have ms : MS t L (ab_si (ab_si (ab_si (ab_si (ab_si σ 0 0 17 B) 0 0 18 0) 0 0 19 (nI L)) 0 0 20 (-1)) 0 0 21 0) 0 0 := by
    refine ⟨⟨hL, rfl, ?_⟩, rfl, by omega, rfl, rfl⟩
    rcases hB with ⟨b1, b2⟩ | ⟨b, b1, b2, b3⟩
    · exact Or.inl ⟨b1, b2⟩
    · exact Or.inr ⟨b, b1, b2, b3⟩
  obtain ⟨v, σ', q1, q2, q3, q4⟩ := wo_L (t := t) (L := L) (env := envM σ) (σ0 := ab_si (ab_si (ab_si (ab_si (ab_si σ 0 0 17 B) 0 0 18 0) 0 0 19 (nI L)) 0 0 20 (-1)) 0 0 21 0) rfl 1024 ab_N 0 false 0 [] _ (by omega) (by rw [pu_N]; omega) rfl ms ⟨fun _ => rfl, fun rest => rfl⟩
  refine ⟨v, σ', q1, ⟨?_, ?_⟩, q3, q4⟩
  · refine Prod.ext ?_ ?_
    · funext r k i
      show (if keepG r i = true then σ'.1 r k i else 0) = (if keepG r i = true then σ.1 r k i else 0)
      by_cases hb : keepG r i = true
      · rw [if_pos hb, if_pos hb]
        have hk : keepQ r i = true ∧ ¬ (r = 0 ∧ (i = 17 ∨ i = 18 ∨ i = 19 ∨ i = 20 ∨ i = 21)) := by
          unfold keepG at hb
          unfold keepQ
          by_cases h11 : r = 11
          · rw [if_pos h11] at hb; cases hb
          · rw [if_neg h11] at hb
            by_cases h0 : r = 0
            · rw [if_pos h0] at hb
              simp only [Bool.or_eq_true, decide_eq_true_eq] at hb
              rw [if_pos h0]
              refine ⟨?_, by omega⟩
              simp only [Bool.and_eq_true, Bool.not_eq_true', decide_eq_false_iff_not]
              omega
            · rw [if_neg h0]
              exact ⟨rfl, fun z => h0 z.1⟩
        rw [mQ_get q2 hk.1]
        simp only [ab_si]
        rw [if_neg (by omega), if_neg (by omega), if_neg (by omega), if_neg (by omega), if_neg (by omega)]
      · rw [if_neg hb, if_neg hb]
    · have := congrArg Prod.snd q2
      exact this
  · funext k i
    exact mQ_get q2 rfl
end
