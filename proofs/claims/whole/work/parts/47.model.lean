/-! PURE, 17: the reference reads and works out a law -/
def bt_ (t : Nat → Int32) (L p : Nat) : Int32 := if p < L then t p else 0
theorem bt_eq {t : Nat → Int32} {L p : Nat} {c : Int32} (h0 : c ≠ 0) (h1 : c ≠ -1) : bt_ t L p = c ↔ lt_ t L p = c := by
  unfold bt_ lt_
  by_cases h : p < L
  · rw [if_pos h, if_pos h]
  · rw [if_neg h, if_neg h]
    exact ⟨fun z => absurd z.symm h0, fun z => absurd z.symm h1⟩
theorem bt_dg {t : Nat → Int32} {L p : Nat} : isDg (bt_ t L p) = isDg (lt_ t L p) := by
  unfold bt_ lt_
  by_cases h : p < L
  · rw [if_pos h, if_pos h]
  · rw [if_neg h, if_neg h]; decide
theorem bt_lt {t : Nat → Int32} {L p : Nat} (h : p < L) : bt_ t L p = lt_ t L p := by
  unfold bt_ lt_
  rw [if_pos h, if_pos h]
def keepQ (r i : Nat) : Bool := if r = 0 then !decide (i = 18) && (!decide (i = 20) && !decide (i = 21)) else true
def mQ (σ : ab_S) : ab_S := (fun r k i => if keepQ r i = true then σ.1 r k i else 0, σ.2)
theorem mQ_si {σ : ab_S} {r k j : Nat} {v : Int32} (h : keepQ r j = false) : mQ (ab_si σ r k j v) = mQ σ := by
  refine Prod.ext ?_ rfl
  funext a b c
  show (if keepQ a c = true then (if a = r ∧ b = k ∧ c = j then v else σ.1 a b c) else 0) = (if keepQ a c = true then σ.1 a b c else 0)
  by_cases hb : keepQ a c = true
  · rw [if_pos hb, if_pos hb, if_neg (fun e => by rw [e.1, e.2.2, h] at hb; cases hb)]
  · rw [if_neg hb, if_neg hb]
theorem mQ_get {σ σ' : ab_S} (h : mQ σ' = mQ σ) {r k i : Nat} (hk : keepQ r i = true) : σ'.1 r k i = σ.1 r k i := by
  have := congrFun (congrFun (congrFun (congrArg Prod.fst h) r) k) i
  simpa only [mQ, hk, if_true] using this
/-- the text that is read: the tape, or a host's -/
def TX (t : Nat → Int32) (L : Nat) (σ : ab_S) : Prop := L ≤ 120 ∧ σ.1 0 0 19 = nI L ∧ ((σ.1 0 0 17 = -1 ∧ ∀ k, k < L → σ.1 8 0 k = t k) ∨ (∃ B, B ≤ 360 ∧ σ.1 0 0 17 = nI B ∧ ∀ k, k < L → σ.1 9 0 (B + k) = t k))
def MS (t : Nat → Int32) (L : Nat) (σ : ab_S) (p dp : Nat) : Prop := TX t L σ ∧ σ.1 0 0 18 = nI p ∧ p ≤ L ∧ σ.1 0 0 20 = -1 ∧ σ.1 0 0 21 = nI dp
def MP (L : Nat) (σ σ' : ab_S) (env : Int32 → Int32) (dp : Nat) (r : PR) (v : Int32) : Prop :=
  mQ σ' = mQ σ ∧ (∃ p', p' ≤ L ∧ σ'.1 0 0 18 = nI p') ∧ (r.1 = true → σ'.1 0 0 20 = nI r.2.1) ∧ (r.1 = false → σ'.1 0 0 20 = -1 ∧ σ'.1 0 0 18 = nI r.2.1 ∧ σ'.1 0 0 21 = nI dp ∧ ∀ rest st, mach env (r.2.2 ++ rest) false st = mach env rest false (v :: st))
def envM (σ : ab_S) : Int32 → Int32 := en (σ.1 11 0 5) (σ.1 11 0 4) (σ.1 11 0 2) (σ.1 11 0 0) (σ.1 11 0 1) (σ.1 11 0 3)
theorem TX.mv {t : Nat → Int32} {L : Nat} {σ σ' : ab_S} (h : TX t L σ) (e : mQ σ' = mQ σ) : TX t L σ' := by
  obtain ⟨h1, h2, h3⟩ := h
  refine ⟨h1, by rw [mQ_get e rfl]; exact h2, ?_⟩
  rcases h3 with ⟨a, b⟩ | ⟨B, b1, b2, b3⟩
  · exact Or.inl ⟨by rw [mQ_get e rfl]; exact a, fun k hk => by rw [mQ_get e rfl]; exact b k hk⟩
  · exact Or.inr ⟨B, b1, by rw [mQ_get e rfl]; exact b2, fun k hk => by rw [mQ_get e rfl]; exact b3 k hk⟩
theorem TX.byte {t : Nat → Int32} {L p : Nat} {σ : ab_S} (h : TX t L σ) (hp : p ≤ L) (h18 : σ.1 0 0 18 = nI p) : fX10_byteAt σ = some (bt_ t L p) := by
  obtain ⟨h1, h2, h3⟩ := h
  unfold fX10_byteAt fX10_byteAt_b48 bt_
  rw [h2, h18]
  by_cases q : p < L
  · rw [if_neg (pu_nle q), if_pos q]
    rcases h3 with ⟨a, b⟩ | ⟨B, b1, b2, b3⟩
    · rw [a, if_neg (by decide), if_pos (inb_nI (by omega)), cl_nI (by omega), b p q]
    · rw [b2, if_pos (pr_le (b := 0) (by omega)), nI_add, if_pos (inb_nI (by omega)), cl_nI (by omega), b3 p q]
  · rw [if_pos (pu_le (by omega)), if_neg q]
section
variable {t : Nat → Int32} {L : Nat} {env : Int32 → Int32}
theorem MS.byte {σ : ab_S} {p dp : Nat} (h : MS t L σ p dp) : fX10_byteAt σ = some (bt_ t L p) := h.1.byte h.2.2.1 h.2.1
theorem MS.next {σ : ab_S} {p dp : Nat} (h : MS t L σ p dp) (hp : p < L) : MS t L (ab_si σ 0 0 18 (nI (p + 1))) (p + 1) dp :=
  ⟨h.1.mv (mQ_si rfl), rfl, by omega, h.2.2.2.1, h.2.2.2.2⟩
theorem MP.ms {σ σ' : ab_S} {p dp : Nat} {r : PR} {v : Int32} (h0 : MS t L σ p dp) (h : MP L σ σ' env dp r v) (hw : r.1 = false) (hr : r.2.1 ≤ L) : MS t L σ' r.2.1 dp := by
  obtain ⟨a1, a2, a3, a4⟩ := h
  obtain ⟨b1, b2, b3, b4⟩ := a4 hw
  exact ⟨h0.1.mv a1, b2, hr, b1, b3⟩
theorem MP.pre {σ σ' : ab_S} {x : Int32} {dp : Nat} {r : PR} {v : Int32} (h : MP L (ab_si σ 0 0 18 x) σ' env dp r v) : MP L σ σ' env dp r v :=
  ⟨h.1.trans (mQ_si rfl), h.2.1, h.2.2.1, h.2.2.2⟩
/-- takes: a byte that is wanted -/
theorem MS.takes {σ : ab_S} {p dp : Nat} (h : MS t L σ p dp) {c : Int32} (h0 : c ≠ 0) (h1 : c ≠ -1) : fX10_takes c σ = if lt_ t L p = c then some (1, ab_si σ 0 0 18 (nI (p + 1))) else some (0, σ) := by
  unfold fX10_takes fX10_takes_b15
  rw [h.2.2.2.1, if_neg (by decide), h.byte, Option.bind_some]
  by_cases q : lt_ t L p = c
  · rw [if_pos ((bt_eq h0 h1).mpr q), if_pos q, pu_k, h.2.1, nI_1]
  · rw [if_neg (fun z => q ((bt_eq h0 h1).mp z)), if_neg q]
theorem takes_w {σ : ab_S} {p : Nat} {c : Int32} (h : σ.1 0 0 20 = nI p) (hp : p < 2 ^ 31) : fX10_takes c σ = some (0, σ) := by
  unfold fX10_takes fX10_takes_b15
  rw [h, if_pos (pr_le (b := 0) (by omega))]
theorem MS.wrong {σ : ab_S} {p dp : Nat} (h : MS t L σ p dp) : fX10_wrong σ = some (0, ab_si σ 0 0 20 (nI p)) := by
  unfold fX10_wrong fX10_wrong_b19
  rw [h.2.2.2.1, if_neg (by decide), pu_k, h.2.1]
theorem wrong_w {σ : ab_S} {p : Nat} (h : σ.1 0 0 20 = nI p) (hp : p < 2 ^ 31) : fX10_wrong σ = some (0, ab_si σ 0 0 20 (nI p)) := by
  unfold fX10_wrong fX10_wrong_b19
  rw [h, if_pos (pr_le (b := 0) (by omega)), pu_k]
/-- two operands and what joins them -/
def bin (c : Int32) : Prop := c ≠ 59 ∧ c ≠ 63 ∧ c < 1000 ∧ (c < 97 ∨ 122 < c) ∧ c ≠ 33 ∧ c ≠ 126
theorem mach_bin {c : Int32} (h : bin c) (rest : List Int32) (w v : Int32) (st : List Int32) : mach env (c :: rest) false (w :: v :: st) = mach env rest false (jn c v w :: st) := by
  obtain ⟨h1, h2, h3, h4, h5, h6⟩ := h
  show (if c = 59 then _ else if c = 63 then _ else if c < 1000 then (if c < 97 ∨ 122 < c then (if c = 33 then _ else if c = 126 then _ else _) else _) else _) = _
  rw [if_neg h1, if_neg h2, if_pos h3, if_pos h4, if_neg h5, if_neg h6]
  rfl
theorem MP.step {σ0 σ σ1 : ab_S} {p dp : Nat} {cs : List Int32} {r1 : PR} {v v1 c x : Int32} (h : MP L σ0 σ env dp (false, p, cs) v) (h1 : MP L (ab_si σ 0 0 18 x) σ1 env dp r1 v1) (hc : bin c) : MP L σ0 σ1 env dp (r1.1, r1.2.1, cs ++ r1.2.2 ++ [c]) (jn c v v1) := by
  refine ⟨h1.1.trans ((mQ_si rfl).trans h.1), h1.2.1, h1.2.2.1, fun z => ?_⟩
  obtain ⟨b1, b2, b3, b4⟩ := h1.2.2.2 z
  obtain ⟨-, -, -, a4⟩ := h.2.2.2 rfl
  refine ⟨b1, b2, b3, fun rest st => ?_⟩
  dsimp only at a4 ⊢
  rw [List.append_assoc, List.append_assoc, a4, b4]
  exact mach_bin hc rest v1 v st
theorem isJ_bin {lv : Nat} (h : lv < 5) {c : Int32} (hj : isJ lv c = true) : bin c := by
  rcases (show lv = 0 ∨ lv = 1 ∨ lv = 2 ∨ lv = 3 ∨ lv = 4 by omega) with rfl | rfl | rfl | rfl | rfl
  · simp only [isJ, decide_eq_true_eq] at hj
    subst hj; unfold bin; decide
  · simp only [isJ, decide_eq_true_eq] at hj
    subst hj; unfold bin; decide
  · simp only [isJ, Bool.or_eq_true, decide_eq_true_eq] at hj
    rcases hj with rfl | rfl | rfl <;> (unfold bin; decide)
  · simp only [isJ, Bool.or_eq_true, decide_eq_true_eq] at hj
    rcases hj with rfl | rfl <;> (unfold bin; decide)
  · simp only [isJ, Bool.or_eq_true, decide_eq_true_eq] at hj
    rcases hj with rfl | rfl | rfl <;> (unfold bin; decide)
/-- what is known of the next level when a level's loop runs -/
def NX (t : Nat → Int32) (L : Nat) (env : Int32 → Int32) (dp : Nat) (next : Nat → PR) (g : ab_S → Option (Int32 × ab_S)) : Prop :=
  (∀ p, p ≤ L → PG L p (next p)) ∧ ∀ (p : Nat) (σ : ab_S), MS t L σ p dp → envM σ = env → ∃ v σ', g σ = some (v, σ') ∧ MP L σ σ' env dp (next p) v
theorem env_Q {σ σ' : ab_S} (h : mQ σ' = mQ σ) : envM σ' = envM σ := by
  unfold envM
  rw [mQ_get h (r := 11) (k := 0) (i := 5) rfl, mQ_get h (r := 11) (k := 0) (i := 4) rfl, mQ_get h (r := 11) (k := 0) (i := 2) rfl, mQ_get h (r := 11) (k := 0) (i := 0) rfl, mQ_get h (r := 11) (k := 0) (i := 1) rfl, mQ_get h (r := 11) (k := 0) (i := 3) rfl]
/-- the loops of the levels, all in one shape: how the reference goes on behind an operand -/
def LPm (t : Nat → Int32) (L lv : Nat) (g : ab_S → Option (Int32 × ab_S)) (loop : Nat → Int32 → ab_S → Option (Int32 × ab_S)) : Prop :=
  (∀ (F p : Nat) (v : Int32) (σ : ab_S), p < 2 ^ 31 → σ.1 0 0 20 = nI p → (∃ p', p' ≤ L ∧ σ.1 0 0 18 = nI p') → TX t L σ → loop (F + 1) v σ = some (v, σ)) ∧
  (∀ (F p dp : Nat) (v : Int32) (σ : ab_S), MS t L σ p dp → ¬ isJ lv (lt_ t L p) = true → loop (F + 1) v σ = some (v, σ)) ∧
  (∀ (F p dp : Nat) (v v1 : Int32) (σ σ1 : ab_S), MS t L σ p dp → isJ lv (lt_ t L p) = true → g (ab_si σ 0 0 18 (nI (p + 1))) = some (v1, σ1) → (∃ p', p' ≤ L ∧ σ1.1 0 0 18 = nI p') → TX t L σ1 → loop (F + 1) v σ = loop F (jn (lt_ t L p) v v1) σ1)
theorem pm_loop {lv dp : Nat} (hlv : lv < 5) {next : Nat → PR} {g : ab_S → Option (Int32 × ab_S)} {loop : Nat → Int32 → ab_S → Option (Int32 × ab_S)} (hN : NX t L env dp next g) (hP : LPm t L lv g loop) {σ0 : ab_S} {p0 : Nat} (h0 : MS t L σ0 p0 dp) (he : envM σ0 = env) :
    ∀ (k F : Nat) (r : PR) (v : Int32) (σ : ab_S), r.2.1 ≤ L → L < r.2.1 + k → L < r.2.1 + F → MP L σ0 σ env dp r v → ∃ v' σ', loop F v σ = some (v', σ') ∧ MP L σ0 σ' env dp (plp next (isJ lv) (lt_ t L) k r) v' := by
  intro k
  induction k with
  | zero => intro F r v σ h1 h2; omega
  | succ k ih =>
    intro F r v σ h1 h2 h3 hm
    obtain ⟨F, rfl⟩ : ∃ f, F = f + 1 := ⟨F - 1, by omega⟩
    have hL := h0.1.1
    obtain ⟨w, p, cs⟩ := r
    dsimp only at h1 h2 h3
    unfold plp
    cases w with
    | true =>
      rw [if_pos rfl]
      exact ⟨v, σ, hP.1 F p v σ (by omega) (hm.2.2.1 rfl) hm.2.1 (h0.1.mv hm.1), hm⟩
    | false =>
      rw [if_neg Bool.false_ne_true]
      have ms := hm.ms h0 rfl h1
      dsimp only at ms
      by_cases hJ : isJ lv (lt_ t L p) = true
      · rw [if_pos hJ]
        have hp := isJ_lt hJ
        obtain ⟨v1, σ1, q1, q2⟩ := hN.2 (p + 1) _ (ms.next hp) (((env_Q (mQ_si rfl)).trans (env_Q hm.1)).trans he)
        have hg := hN.1 (p + 1) (by omega)
        rw [hP.2.2 F p dp v v1 σ σ1 ms hJ q1 q2.2.1 (ms.1.mv (q2.1.trans (mQ_si rfl)))]
        have q3 := hm.step q2 (isJ_bin hlv hJ)
        have g1 := hg.1
        have g2 := hg.2.1
        exact ih F _ _ σ1 g2 (by dsimp only; omega) (by dsimp only; omega) q3
      · rw [if_neg hJ]
        exact ⟨v, σ, hP.2.1 F p dp v σ ms hJ, hm⟩
theorem lp_either {n : Nat} : LPm t L 0 (fX10_both n) (fX10_either_b5 (fX10_both n) (fX10_compared n) (fX10_either n) (fX10_one n) (fX10_product n) (fX10_sums n)) := by
  refine ⟨fun F p v σ hp h _ _ => ?_, fun F p dp v σ ms hj => ?_, fun F p dp v v1 σ σ1 ms hj hg _ _ => ?_⟩
  · show fX10_either_b5_o _ _ _ _ _ _ _ v σ = _
    unfold fX10_either_b5_o
    rw [takes_w h hp]; rfl
  · show fX10_either_b5_o _ _ _ _ _ _ _ v σ = _
    unfold fX10_either_b5_o
    rw [ms.takes (by decide) (by decide), if_neg (fun z => hj (by rw [z]; rfl))]; rfl
  · show fX10_either_b5_o _ _ _ _ _ _ _ v σ = _
    have e : lt_ t L p = 124 := by simpa [isJ] using hj
    unfold fX10_either_b5_o fX10_either_b27 fX10_either_b32
    rw [ms.takes (by decide) (by decide), if_pos e, Option.bind_some, if_neg pu_10, hg, Option.bind_some, e]
    show _ = fX10_either_b5 _ _ _ _ _ _ F (if v = 0 then (if v1 = 0 then 0 else 1) else 1) σ1
    by_cases c1 : v = 0
    · rw [if_pos c1, if_pos c1]
      by_cases c2 : v1 = 0
      · rw [if_pos c2, if_pos c2]
      · rw [if_neg c2, if_neg c2]
    · rw [if_neg c1, if_neg c1]
theorem lp_both {n : Nat} : LPm t L 1 (fX10_compared n) (fX10_both_b5 (fX10_both n) (fX10_compared n) (fX10_either n) (fX10_one n) (fX10_product n) (fX10_sums n)) := by
  refine ⟨fun F p v σ hp h _ _ => ?_, fun F p dp v σ ms hj => ?_, fun F p dp v v1 σ σ1 ms hj hg _ _ => ?_⟩
  · show fX10_both_b5_o _ _ _ _ _ _ _ v σ = _
    unfold fX10_both_b5_o
    rw [takes_w h hp]; rfl
  · show fX10_both_b5_o _ _ _ _ _ _ _ v σ = _
    unfold fX10_both_b5_o
    rw [ms.takes (by decide) (by decide), if_neg (fun z => hj (by rw [z]; rfl))]; rfl
  · show fX10_both_b5_o _ _ _ _ _ _ _ v σ = _
    have e : lt_ t L p = 38 := by simpa [isJ] using hj
    unfold fX10_both_b5_o fX10_both_b31 fX10_both_b32
    rw [ms.takes (by decide) (by decide), if_pos e, Option.bind_some, if_neg pu_10, hg, Option.bind_some, e]
    show _ = fX10_both_b5 _ _ _ _ _ _ F (if v = 0 then 0 else if v1 = 0 then 0 else 1) σ1
    by_cases c1 : v = 0
    · rw [if_pos c1, if_pos c1]
    · rw [if_neg c1, if_neg c1]
      by_cases c2 : v1 = 0
      · rw [if_pos c2, if_pos c2]
      · rw [if_neg c2, if_neg c2]
theorem lp_sums {n : Nat} : LPm t L 3 (fX10_product n) (fX10_sums_b5 (fX10_both n) (fX10_compared n) (fX10_either n) (fX10_one n) (fX10_product n) (fX10_sums n)) := by
  refine ⟨fun F p v σ hp h _ _ => ?_, fun F p dp v σ ms hj => ?_, fun F p dp v v1 σ σ1 ms hj hg _ _ => ?_⟩
  · show fX10_sums_b5_o _ _ _ _ _ _ _ v σ = _
    unfold fX10_sums_b5_o fX10_sums_b77
    rw [h, if_pos (pr_le (b := 0) (by omega))]
  · show fX10_sums_b5_o _ _ _ _ _ _ _ v σ = _
    unfold fX10_sums_b5_o fX10_sums_b77
    rw [ms.2.2.2.1, if_neg (by decide), ms.byte, Option.bind_some, if_neg (fun z => hj (by rw [(bt_eq (by decide) (by decide)).mp z]; rfl)), Option.bind_some, if_neg (fun z => hj (by rw [(bt_eq (by decide) (by decide)).mp z]; rfl))]
  · show fX10_sums_b5_o _ _ _ _ _ _ _ v σ = _
    have e : lt_ t L p = 43 ∨ lt_ t L p = 45 := by simpa [isJ] using hj
    unfold fX10_sums_b5_o fX10_sums_b30 fX10_sums_b44 fX10_sums_b73
    rw [ms.2.2.2.1, if_neg (by decide), ms.byte]
    simp only [Option.bind_some, pu_k, ms.2.1, nI_1, hg]
    rcases e with e | e
    · have e2 : bt_ t L p = 43 := (bt_eq (by decide) (by decide)).mpr e
      rw [e2, e, if_pos rfl, if_pos rfl, if_neg pu_10]
      rfl
    · have e2 : bt_ t L p = 45 := (bt_eq (by decide) (by decide)).mpr e
      rw [e2, e, if_neg (by decide), if_pos rfl, if_neg (by decide), if_pos trivial]
      rfl
theorem lp_product {n : Nat} : LPm t L 4 (fX10_one n) (fun F v σ => (fX10_byteAt σ).bind fun q => fX10_product_b10 (fX10_both n) (fX10_compared n) (fX10_either n) (fX10_one n) (fX10_product n) (fX10_sums n) F v q σ) := by
  refine ⟨fun F p v σ hp h hpl tx => ?_, fun F p dp v σ ms hj => ?_, fun F p dp v v1 σ σ1 ms hj hg hpl tx => ?_⟩
  · obtain ⟨p', hp', e'⟩ := hpl
    show (fX10_byteAt σ).bind (fun q => fX10_product_b10_o _ _ _ _ _ _ _ v q σ) = _
    unfold fX10_product_b10_o fX10_product_b94
    rw [tx.byte hp' e', Option.bind_some, h, if_pos (pr_le (b := 0) (by omega))]
  · show (fX10_byteAt σ).bind (fun q => fX10_product_b10_o _ _ _ _ _ _ _ v q σ) = _
    unfold fX10_product_b10_o fX10_product_b94
    rw [ms.byte, Option.bind_some, ms.2.2.2.1, if_neg (by decide), if_neg (fun z => hj (by rw [(bt_eq (by decide) (by decide)).mp z]; rfl)), if_neg (fun z => hj (by rw [(bt_eq (by decide) (by decide)).mp z]; rfl)), if_neg (fun z => hj (by rw [(bt_eq (by decide) (by decide)).mp z]; rfl))]
  · obtain ⟨p', hp', e'⟩ := hpl
    show (fX10_byteAt σ).bind (fun q => fX10_product_b10_o _ _ _ _ _ _ _ v q σ) = (fX10_byteAt σ1).bind _
    have e : lt_ t L p = 42 ∨ lt_ t L p = 47 ∨ lt_ t L p = 37 := by simpa [isJ] using hj
    unfold fX10_product_b10_o fX10_product_b35 fX10_product_b85
    rw [ms.byte, Option.bind_some, ms.2.2.2.1, if_neg (by decide)]
    simp only [pu_k, ms.2.1, nI_1, hg, Option.bind_some, tx.byte hp' e']
    rcases e with e | e | e
    · have e2 : bt_ t L p = 42 := (bt_eq (by decide) (by decide)).mpr e
      rw [e2, e, if_pos rfl, if_pos rfl]
      rfl
    · have e2 : bt_ t L p = 47 := (bt_eq (by decide) (by decide)).mpr e
      rw [e2, e, if_neg (by decide), if_pos rfl, if_neg (by decide)]
      show _ = fX10_product_b10 _ _ _ _ _ _ F (if v1 = 0 then 0 else v / v1) _ σ1
      by_cases c : v1 = 0
      · rw [if_pos c, if_pos c]
      · rw [if_neg c, if_neg c, if_pos rfl, if_neg c]
    · have e2 : bt_ t L p = 37 := (bt_eq (by decide) (by decide)).mpr e
      rw [e2, e, if_neg (by decide), if_neg (by decide), if_pos rfl, if_neg (by decide)]
      show _ = fX10_product_b10 _ _ _ _ _ _ F (if v1 = 0 then 0 else ab_mod v v1) _ σ1
      by_cases c : v1 = 0
      · rw [if_pos c, if_pos c]
      · rw [if_neg c, if_neg (by decide), if_neg c, if_neg c]
end
