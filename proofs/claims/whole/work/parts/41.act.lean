/-! PURE, 11: bodies -/
def aC (σ : ab_S) : ab_S := (fun r k i => if r = 38 then 0 else if r = 36 ∧ i = 3 then 0 else σ.1 r k i, σ.2)
def aM (σ : ab_S) : ab_S := (fun r k i => if r = 19 then 0 else if r = 0 ∧ i = 38 then 0 else σ.1 r k i, σ.2)
def TRm (K : Nat) (num : Int32) (r : Nat) (σc σm : ab_S) : Prop :=
  σc.1 36 0 3 = nI r ∧ σm.1 0 0 38 = nI r ∧ (∀ j, j < 24 → σm.1 19 0 j = σc.1 38 0 j) ∧ σc.1 36 0 4 = num ∧ σm.1 0 0 40 = num ∧ σc.1 36 0 5 = nI K ∧ σm.1 0 0 39 = nI K
def SimA (K : Nat) (num : Int32) (c : Nat) (f g : ab_S → Option (Int32 × ab_S)) : Prop :=
  ∀ (σc σm : ab_S) (r : Nat), r + c ≤ 100 → TRm K num r σc σm → ∃ (v : Int32) (σc' σm' : ab_S), f σc = some (v, σc') ∧ g σm = some (v, σm') ∧ aC σc' = aC σc ∧ aM σm' = aM σm ∧ TRm K num (r + c) σc' σm'
theorem aC_si {σ : ab_S} {j : Nat} {v : Int32} : aC (ab_si σ 38 0 j v) = aC σ := by
  refine Prod.ext ?_ rfl
  funext r k i
  show (if r = 38 then 0 else if r = 36 ∧ i = 3 then 0 else if r = 38 ∧ k = 0 ∧ i = j then v else σ.1 r k i) = (if r = 38 then 0 else if r = 36 ∧ i = 3 then 0 else σ.1 r k i)
  by_cases h : r = 38
  · rw [if_pos h, if_pos h]
  · rw [if_neg h, if_neg h, if_neg (show ¬ (r = 38 ∧ k = 0 ∧ i = j) from fun z => h z.1)]
theorem aC_si3 {σ : ab_S} {v : Int32} : aC (ab_si σ 36 0 3 v) = aC σ := by
  refine Prod.ext ?_ rfl
  funext r k i
  show (if r = 38 then 0 else if r = 36 ∧ i = 3 then 0 else if r = 36 ∧ k = 0 ∧ i = 3 then v else σ.1 r k i) = (if r = 38 then 0 else if r = 36 ∧ i = 3 then 0 else σ.1 r k i)
  by_cases h : r = 36 ∧ i = 3
  · rw [if_pos h, if_pos h]
  · rw [if_neg h, if_neg h, if_neg (show ¬ (r = 36 ∧ k = 0 ∧ i = 3) from fun z => h ⟨z.1, z.2.2⟩)]
theorem aM_si {σ : ab_S} {j : Nat} {v : Int32} : aM (ab_si σ 19 0 j v) = aM σ := by
  refine Prod.ext ?_ rfl
  funext r k i
  show (if r = 19 then 0 else if r = 0 ∧ i = 38 then 0 else if r = 19 ∧ k = 0 ∧ i = j then v else σ.1 r k i) = (if r = 19 then 0 else if r = 0 ∧ i = 38 then 0 else σ.1 r k i)
  by_cases h : r = 19
  · rw [if_pos h, if_pos h]
  · rw [if_neg h, if_neg h, if_neg (show ¬ (r = 19 ∧ k = 0 ∧ i = j) from fun z => h z.1)]
theorem aM_si3 {σ : ab_S} {v : Int32} : aM (ab_si σ 0 0 38 v) = aM σ := by
  refine Prod.ext ?_ rfl
  funext r k i
  show (if r = 19 then 0 else if r = 0 ∧ i = 38 then 0 else if r = 0 ∧ k = 0 ∧ i = 38 then v else σ.1 r k i) = (if r = 19 then 0 else if r = 0 ∧ i = 38 then 0 else σ.1 r k i)
  by_cases h : r = 0 ∧ i = 38
  · rw [if_pos h, if_pos h]
  · rw [if_neg h, if_neg h, if_neg (show ¬ (r = 0 ∧ k = 0 ∧ i = 38) from fun z => h ⟨z.1, z.2.2⟩)]
section
variable {K : Nat} {num : Int32}
theorem sa_note (b : Int32) {σc σm : ab_S} {r : Nat} (hr : r < 100) (h : TRm K num r σc σm) : ∃ σc' σm', fX0_note b σc = some σc' ∧ fX10_begins b σm = some σm' ∧ aC σc' = aC σc ∧ aM σm' = aM σm ∧ TRm K num (r + 1) σc' σm' := by
  obtain ⟨h1, h2, h3, h4, h5, h6, h7⟩ := h
  unfold fX0_note fX10_begins fX0_note_b26 fX10_begins_b19
  rw [h1, h2, if_neg pu_n1l]
  by_cases h24 : 24 ≤ r
  · rw [if_pos (pr_le (b := 24) h24), if_pos (pr_le (b := 24) h24), pu_k, pu_k, nI_1]
    exact ⟨_, _, rfl, rfl, aC_si3, aM_si3, rfl, rfl, h3, h4, h5, h6, h7⟩
  · rw [if_neg (pr_nle (b := 24) (by omega)), if_neg (pr_nle (b := 24) (by omega)), if_pos (inb_nI (by omega)), if_pos (inb_nI (by omega)), cl_nI]
    simp only [pu_k]
    have r1 : (ab_si σc 38 0 r b).1 36 0 3 = nI r := h1
    have r2 : (ab_si σm 19 0 r b).1 0 0 38 = nI r := h2
    rw [r1, r2, nI_1]
    refine ⟨_, _, rfl, rfl, aC_si3.trans aC_si, aM_si3.trans aM_si, rfl, rfl, fun j hj => ?_, h4, h5, h6, h7⟩
    show (ab_si σm 19 0 r b).1 19 0 j = (ab_si σc 38 0 r b).1 38 0 j
    by_cases hjr : j = r
    · subst hjr
      rw [pu_siE, pu_siE]
    · rw [pu_siJ hjr, pu_siJ hjr]
      exact h3 j hj
theorem sa0 {b : Int32} {F G : ab_S → Option (Int32 × ab_S)} (op : Int32 → Int32) (hF : ∀ σ, F σ = (fX0_note b σ).bind fun q => some (op (q.1 36 0 4), q)) (hG : ∀ σ, G σ = (fX10_begins b σ).bind fun q => some (op (q.1 0 0 40), q)) : SimA K num 1 F G := by
  intro σc σm r hr h
  obtain ⟨c1, m1, q1, q2, q3, q4, q5⟩ := sa_note b (by omega) h
  refine ⟨op num, c1, m1, ?_, ?_, q3, q4, q5⟩
  · rw [hF, q1, Option.bind_some, q5.2.2.2.1]
  · rw [hG, q2, Option.bind_some, q5.2.2.2.2.1]
theorem sa1 {c : Nat} {b : Int32} {f g F G : ab_S → Option (Int32 × ab_S)} (op : Int32 → Int32) (hF : ∀ σ, F σ = (fX0_note b σ).bind fun q => ((f q).bind fun z => some (op z.1, z.2)).bind fun z => some (z.1, z.2)) (hG : ∀ σ, G σ = (fX10_begins b σ).bind fun q => (g q).bind fun z => some (op z.1, z.2)) (h : SimA K num c f g) : SimA K num (c + 1) F G := by
  intro σc σm r hr hT
  obtain ⟨c1, m1, q1, q2, q3, q4, q5⟩ := sa_note b (by omega) hT
  obtain ⟨v, c2, m2, w1, w2, w3, w4, w5⟩ := h c1 m1 (r + 1) (by omega) q5
  refine ⟨op v, c2, m2, ?_, ?_, w3.trans q3, w4.trans q4, ?_⟩
  · rw [hF, q1, Option.bind_some, w1]; rfl
  · rw [hG, q2, Option.bind_some, w2]; rfl
  · rw [show r + (c + 1) = r + 1 + c by omega]; exact w5
theorem sa2 {c d : Nat} {b : Int32} {f g f2 g2 F G : ab_S → Option (Int32 × ab_S)} (op : Int32 → Int32 → Int32) (hF : ∀ σ, F σ = (fX0_note b σ).bind fun q => ((f q).bind fun z => (f2 z.2).bind fun w => some (op z.1 w.1, w.2)).bind fun z => some (z.1, z.2)) (hG : ∀ σ, G σ = (fX10_begins b σ).bind fun q => (g q).bind fun z => (g2 z.2).bind fun w => some (op z.1 w.1, w.2)) (h : SimA K num c f g) (h2 : SimA K num d f2 g2) : SimA K num (c + d + 1) F G := by
  intro σc σm r hr hT
  obtain ⟨c1, m1, q1, q2, q3, q4, q5⟩ := sa_note b (by omega) hT
  obtain ⟨v, c2, m2, w1, w2, w3, w4, w5⟩ := h c1 m1 (r + 1) (by omega) q5
  obtain ⟨u, c3, m3, y1, y2, y3, y4, y5⟩ := h2 c2 m2 (r + 1 + c) (by omega) w5
  refine ⟨op v u, c3, m3, ?_, ?_, y3.trans (w3.trans q3), y4.trans (w4.trans q4), ?_⟩
  · rw [hF, q1, Option.bind_some, w1, Option.bind_some, y1]; rfl
  · rw [hG, q2, Option.bind_some, w2, Option.bind_some, y2]; rfl
  · rw [show r + (c + d + 1) = r + 1 + c + d by omega]; exact y5
theorem saK {c : Nat} {f g : Int32 → ab_S → Option (Int32 × ab_S)} (h : SimA K num c (f (nI K)) (g (nI K))) : SimA K num c (fun σ => f (σ.1 36 0 5) σ) (fun σ => g (σ.1 0 0 39) σ) := by
  intro σc σm r hr hT
  obtain ⟨v, c2, m2, w1, w2, w3⟩ := h σc σm r hr hT
  refine ⟨v, c2, m2, ?_, ?_, w3⟩
  · show f (σc.1 36 0 5) σc = _
    rw [hT.2.2.2.2.2.1]; exact w1
  · show g (σm.1 0 0 39) σm = _
    rw [hT.2.2.2.2.2.2]; exact w2
theorem sa_le {c d : Nat} {f g : ab_S → Option (Int32 × ab_S)} (h : SimA K num c f g) (hcd : c = d) : SimA K num d f g := hcd ▸ h
theorem ru {n : Nat} {k a x : Int32} {dp : Nat} (hdp : dp ≤ 40) (σ : ab_S) : fX0_run (n + 1) k a x (nI dp) σ = fX0_run_b15 (fX0_answer n) (fX0_run n) ab_N a x (nI dp) k 0 σ := by
  show fX0_run_o _ _ _ _ _ _ _ = _
  unfold fX0_run_o
  rw [if_pos (pl_le (b := 40) hdp)]
  rfl
/-- hides -/
theorem sa_h0 {n m k : Nat} {x : Int32} {dp : Nat} (hdp : dp ≤ 40) (hk : k = 0 ∨ k = 2 ∨ k = 3 ∨ k = 5) : SimA K num 1 (fX0_run (n + 2) (nI k) 0 x (nI dp)) (fX10_hidesAs (m + 1) (nI k) x) := by
  rcases hk with rfl | rfl | rfl | rfl <;> exact sa0 (b := 1) (fun q => x + q) (fun σ => (ru hdp σ).trans rfl) (fun σ => rfl)
def chh (k : Nat) : Nat := if k = 0 ∨ k = 2 ∨ k = 3 ∨ k = 5 then 1 else 2
theorem sa_h {n m k : Nat} {x : Int32} {dp : Nat} (hdp : dp + 1 ≤ 40) (hk : k < 8) : SimA K num (chh k) (fX0_run (n + 4) (nI k) 0 x (nI dp)) (fX10_hidesAs (m + 2) (nI k) x) := by
  have b0 : SimA K num 1 (fX0_run (n + 2) (nI 0) 0 x (nI (dp + 1))) (fX10_hidesAs (m + 1) (nI 0) x) := sa_h0 hdp (Or.inl rfl)
  rw [show nI (dp + 1) = nI dp + 1 from (nI_1 dp).symm] at b0
  rcases (show k = 0 ∨ k = 1 ∨ k = 2 ∨ k = 3 ∨ k = 4 ∨ k = 5 ∨ k = 6 ∨ k = 7 by omega) with rfl | rfl | rfl | rfl | rfl | rfl | rfl | rfl
  · exact sa_h0 (by omega) (by omega)
  · exact sa1 (b := 20) (fun q => q + 3) (fun σ => (ru (by omega) σ).trans rfl) (fun σ => rfl) b0
  · exact sa_h0 (by omega) (by omega)
  · exact sa_h0 (by omega) (by omega)
  · exact sa1 (b := 20) (fun q => q + 3) (fun σ => (ru (by omega) σ).trans rfl) (fun σ => rfl) b0
  · exact sa_h0 (by omega) (by omega)
  · exact sa1 (b := 70) (fun q => q * 2) (fun σ => (ru (by omega) σ).trans rfl) (fun σ => rfl) b0
  · exact sa1 (b := 20) (fun q => q + 3) (fun σ => (ru (by omega) σ).trans rfl) (fun σ => rfl) b0
/-- asks -/
theorem sa_a0 {n m k : Nat} {x : Int32} {dp : Nat} (hdp : dp ≤ 40) (hk : k = 0 ∨ k = 1 ∨ k = 2 ∨ k = 6) : SimA K num 1 (fX0_run (n + 2) (nI k) 2 x (nI dp)) (fX10_asksAs (m + 1) (nI k) x) := by
  rcases hk with rfl | rfl | rfl | rfl <;> exact sa0 (b := 11) (fun q => x ^^^ q) (fun σ => (ru hdp σ).trans rfl) (fun σ => rfl)
def caa (K k : Nat) : Nat := if k = 0 ∨ k = 1 ∨ k = 2 ∨ k = 6 then 1 else if k = 3 ∨ k = 5 then 2 else 1 + chh K + 1
theorem sa_a {n m k : Nat} {x : Int32} {dp : Nat} (hK : K < 8) (hdp : dp + 2 ≤ 40) (hk : k < 8) : SimA K num (caa K k) (fX0_run (n + 6) (nI k) 2 x (nI dp)) (fX10_asksAs (m + 2) (nI k) x) := by
  have b2 : SimA K num 1 (fX0_run (n + 4) (nI 2) 2 x (nI (dp + 1))) (fX10_asksAs (m + 1) (nI 2) x) := sa_a0 (by omega) (by omega)
  have b1 : SimA K num 1 (fX0_run (n + 4) (nI 1) 2 x (nI (dp + 1))) (fX10_asksAs (m + 1) (nI 1) x) := sa_a0 (by omega) (by omega)
  have bK : SimA K num (chh K) (fun σ => fX0_run (n + 4) (σ.1 36 0 5) 0 2 (nI (dp + 1)) σ) (fun σ => fX10_hidesAs 64 (σ.1 0 0 39) 2 σ) := saK (f := fun k σ => fX0_run (n + 4) k 0 2 (nI (dp + 1)) σ) (g := fun k σ => fX10_hidesAs 64 k 2 σ) (sa_h (m := 62) (by omega) hK)
  rw [show nI (dp + 1) = nI dp + 1 from (nI_1 dp).symm] at b1 b2 bK
  rcases (show k = 0 ∨ k = 1 ∨ k = 2 ∨ k = 3 ∨ k = 4 ∨ k = 5 ∨ k = 6 ∨ k = 7 by omega) with rfl | rfl | rfl | rfl | rfl | rfl | rfl | rfl
  · exact sa_a0 (by omega) (by omega)
  · exact sa_a0 (by omega) (by omega)
  · exact sa_a0 (by omega) (by omega)
  · exact sa1 (b := 40) (fun q => q * 3) (fun σ => (ru (by omega) σ).trans rfl) (fun σ => rfl) b2
  · exact sa2 (b := 50) (fun q w => q - w) (fun σ => (ru (by omega) σ).trans rfl) (fun σ => rfl) b1 bK
  · exact sa1 (b := 40) (fun q => q * 3) (fun σ => (ru (by omega) σ).trans rfl) (fun σ => rfl) b2
  · exact sa_a0 (by omega) (by omega)
  · exact sa2 (b := 50) (fun q w => q - w) (fun σ => (ru (by omega) σ).trans rfl) (fun σ => rfl) b1 bK
/-- opens -/
theorem sa_o0 {n m k : Nat} {x : Int32} {dp : Nat} (hK : K < 8) (hdp : dp + 2 ≤ 40) (hk : k = 0 ∨ k = 1 ∨ k = 4 ∨ k = 6) : SimA K num (chh K + 1) (fX0_run (n + 6) (nI k) 1 x (nI dp)) (fX10_opensAs (m + 1) (nI k) x) := by
  have bK : SimA K num (chh K) (fun σ => fX0_run (n + 4) (σ.1 36 0 5) 0 x (nI (dp + 1)) σ) (fun σ => fX10_hidesAs 64 (σ.1 0 0 39) x σ) := saK (f := fun k σ => fX0_run (n + 4) k 0 x (nI (dp + 1)) σ) (g := fun k σ => fX10_hidesAs 64 k x σ) (sa_h (m := 62) (by omega) hK)
  rw [show nI (dp + 1) = nI dp + 1 from (nI_1 dp).symm] at bK
  rcases hk with rfl | rfl | rfl | rfl <;> exact sa1 (b := 10) (fun q => q * 2) (fun σ => (ru (by omega) σ).trans rfl) (fun σ => rfl) bK
theorem sa_o2 {n m : Nat} {x : Int32} {dp : Nat} (hK : K < 8) (hdp : dp + 3 ≤ 40) : SimA K num (chh K + 1 + 1) (fX0_run (n + 8) (nI 2) 1 x (nI dp)) (fX10_opensAs (m + 2) (nI 2) x) := by
  have b0 : SimA K num (chh K + 1) (fX0_run (n + 6) (nI 0) 1 x (nI (dp + 1))) (fX10_opensAs (m + 1) (nI 0) x) := sa_o0 hK (by omega) (by omega)
  rw [show nI (dp + 1) = nI dp + 1 from (nI_1 dp).symm] at b0
  exact sa1 (b := 30) (fun q => -q) (fun σ => (ru (by omega) σ).trans rfl) (fun σ => rfl) b0
def coo (K k : Nat) : Nat := if k = 0 ∨ k = 1 ∨ k = 4 ∨ k = 6 then chh K + 1 else if k = 2 then chh K + 1 + 1 else if k = 7 then chh K + 1 + caa K K + 1 else chh K + 1 + 1 + 1
theorem sa_o {n m k : Nat} {x : Int32} {dp : Nat} (hK : K < 8) (hdp : dp + 4 ≤ 40) (hk : k < 8) : SimA K num (coo K k) (fX0_run (n + 10) (nI k) 1 x (nI dp)) (fX10_opensAs (m + 3) (nI k) x) := by
  have b2 : ∀ y : Int32, SimA K num (chh K + 1 + 1) (fX0_run (n + 8) (nI 2) 1 y (nI (dp + 1))) (fX10_opensAs (m + 2) (nI 2) y) := fun y => sa_o2 hK (by omega)
  have b4 : SimA K num (chh K + 1) (fX0_run (n + 8) (nI 4) 1 x (nI (dp + 1))) (fX10_opensAs (m + 2) (nI 4) x) := sa_o0 hK (by omega) (by omega)
  have bK : SimA K num (caa K K) (fun σ => fX0_run (n + 8) (σ.1 36 0 5) 2 2 (nI (dp + 1)) σ) (fun σ => fX10_asksAs 64 (σ.1 0 0 39) 2 σ) := saK (f := fun k σ => fX0_run (n + 8) k 2 2 (nI (dp + 1)) σ) (g := fun k σ => fX10_asksAs 64 k 2 σ) (sa_a (m := 62) hK (by omega) hK)
  rw [show nI (dp + 1) = nI dp + 1 from (nI_1 dp).symm] at b2 b4 bK
  rcases (show k = 0 ∨ k = 1 ∨ k = 2 ∨ k = 3 ∨ k = 4 ∨ k = 5 ∨ k = 6 ∨ k = 7 by omega) with rfl | rfl | rfl | rfl | rfl | rfl | rfl | rfl
  · exact sa_o0 hK (by omega) (by omega)
  · exact sa_o0 hK (by omega) (by omega)
  · exact sa_o2 hK (by omega)
  · exact sa1 (b := 41) (fun q => q) (fun σ => (ru (by omega) σ).trans rfl) (fun σ => rfl) (b2 (x + 1))
  · exact sa_o0 hK (by omega) (by omega)
  · exact sa1 (b := 41) (fun q => q) (fun σ => (ru (by omega) σ).trans rfl) (fun σ => rfl) (b2 (x + 1))
  · exact sa_o0 hK (by omega) (by omega)
  · exact sa2 (b := 80) (fun q w => q + w) (fun σ => (ru (by omega) σ).trans rfl) (fun σ => rfl) b4 bK
/-- tells -/
theorem sa_t0 {n m k : Nat} {x : Int32} {dp : Nat} (hK : K < 8) (hdp : dp + 5 ≤ 40) (hk : k = 0 ∨ k = 1 ∨ k = 2 ∨ k = 3 ∨ k = 4 ∨ k = 6) : SimA K num (coo K K + caa K K + 1) (fX0_run (n + 12) (nI k) 3 x (nI dp)) (fX10_tellsAs (m + 1) (nI k) x) := by
  have bO : SimA K num (coo K K) (fun σ => fX0_run (n + 10) (σ.1 36 0 5) 1 x (nI (dp + 1)) σ) (fun σ => fX10_opensAs 64 (σ.1 0 0 39) x σ) := saK (f := fun k σ => fX0_run (n + 10) k 1 x (nI (dp + 1)) σ) (g := fun k σ => fX10_opensAs 64 k x σ) (sa_o (m := 61) hK (by omega) hK)
  have bA : SimA K num (caa K K) (fun σ => fX0_run (n + 10) (σ.1 36 0 5) 2 1 (nI (dp + 1)) σ) (fun σ => fX10_asksAs 64 (σ.1 0 0 39) 1 σ) := saK (f := fun k σ => fX0_run (n + 10) k 2 1 (nI (dp + 1)) σ) (g := fun k σ => fX10_asksAs 64 k 1 σ) (sa_a (m := 62) hK (by omega) hK)
  rw [show nI (dp + 1) = nI dp + 1 from (nI_1 dp).symm] at bO bA
  rcases hk with rfl | rfl | rfl | rfl | rfl | rfl <;> exact sa2 (b := 2) (fun q w => q - w) (fun σ => (ru (by omega) σ).trans rfl) (fun σ => rfl) bO bA
def ctt (K k : Nat) : Nat := if k = 5 ∨ k = 7 then coo K K + caa K K + 1 + 1 else coo K K + caa K K + 1
theorem sa_t {n m k : Nat} {x : Int32} {dp : Nat} (hK : K < 8) (hdp : dp + 6 ≤ 40) (hk : k < 8) : SimA K num (ctt K k) (fX0_run (n + 14) (nI k) 3 x (nI dp)) (fX10_tellsAs (m + 2) (nI k) x) := by
  have b3 : SimA K num (coo K K + caa K K + 1) (fX0_run (n + 12) (nI 3) 3 x (nI (dp + 1))) (fX10_tellsAs (m + 1) (nI 3) x) := sa_t0 hK (by omega) (by omega)
  have b4 : SimA K num (coo K K + caa K K + 1) (fX0_run (n + 12) (nI 4) 3 x (nI (dp + 1))) (fX10_tellsAs (m + 1) (nI 4) x) := sa_t0 hK (by omega) (by omega)
  rw [show nI (dp + 1) = nI dp + 1 from (nI_1 dp).symm] at b3 b4
  rcases (show k = 0 ∨ k = 1 ∨ k = 2 ∨ k = 3 ∨ k = 4 ∨ k = 5 ∨ k = 6 ∨ k = 7 by omega) with rfl | rfl | rfl | rfl | rfl | rfl | rfl | rfl
  · exact sa_t0 hK (by omega) (by omega)
  · exact sa_t0 hK (by omega) (by omega)
  · exact sa_t0 hK (by omega) (by omega)
  · exact sa_t0 hK (by omega) (by omega)
  · exact sa_t0 hK (by omega) (by omega)
  · exact sa1 (b := 60) (fun q => q ^^^ 5) (fun σ => (ru (by omega) σ).trans rfl) (fun σ => rfl) b3
  · exact sa_t0 hK (by omega) (by omega)
  · exact sa1 (b := 81) (fun q => q - 1) (fun σ => (ru (by omega) σ).trans rfl) (fun σ => rfl) b4
end
theorem sa_cost : ∀ K, K < 8 → chh K ≤ 60 ∧ caa K K ≤ 60 ∧ coo K K ≤ 60 ∧ ctt K K ≤ 60 := by decide
