/-! PURE, 0: numbers, reads and writes, small tests of both sides in plain words -/
theorem pu_k {α β : Type} (x : α) (f : α → β) : ab_k x f = f x := rfl
theorem pu_N : ab_N = 1024 := rfl
section
variable {σ : ab_S} {r k j a b c : Nat} {v : Int32} {w : Int64}
theorem pu_si : (ab_si σ r k j v).1 a b c = if a = r ∧ b = k ∧ c = j then v else σ.1 a b c := rfl
theorem pu_sl : (ab_sl σ r k j w).2 a b c = if a = r ∧ b = k ∧ c = j then w else σ.2 a b c := rfl
theorem pu_si2 : (ab_si σ r k j v).2 = σ.2 := rfl
theorem pu_sl1 : (ab_sl σ r k j w).1 = σ.1 := rfl
theorem pu_siR (h : a ≠ r) : (ab_si σ r k j v).1 a = σ.1 a := by
  funext b c
  exact if_neg (fun e => h e.1)
theorem pu_slR (h : a ≠ r) : (ab_sl σ r k j w).2 a = σ.2 a := by
  funext b c
  exact if_neg (fun e => h e.1)
theorem pu_siK (h : b ≠ k) : (ab_si σ r k j v).1 a b = σ.1 a b := by
  funext c
  exact if_neg (fun e => h e.2.1)
theorem pu_slK (h : b ≠ k) : (ab_sl σ r k j w).2 a b = σ.2 a b := by
  funext c
  exact if_neg (fun e => h e.2.1)
theorem pu_siJ (h : c ≠ j) : (ab_si σ r k j v).1 a b c = σ.1 a b c := if_neg (fun e => h e.2.2)
theorem pu_slJ (h : c ≠ j) : (ab_sl σ r k j w).2 a b c = σ.2 a b c := if_neg (fun e => h e.2.2)
theorem pu_siE : (ab_si σ r k j v).1 r k j = v := if_pos ⟨rfl, rfl, rfl⟩
theorem pu_slE : (ab_sl σ r k j w).2 r k j = w := if_pos ⟨rfl, rfl, rfl⟩
end
def bI (q : Prop) [Decidable q] : Int32 := if q then 1 else 0
theorem bI_isb (q : Prop) [Decidable q] : ab_isb (bI q) = true := by unfold bI; split <;> rfl
theorem bI_t {q : Prop} [Decidable q] (h : q) : bI q = 1 := if_pos h
theorem bI_f {q : Prop} [Decidable q] (h : ¬ q) : bI q = 0 := if_neg h
theorem isb0 : ab_isb 0 = true := rfl
theorem isb1 : ab_isb 1 = true := rfl
theorem pu_10 : ¬ (1 : Int32) = 0 := by decide
theorem inb_nI {d N : Nat} (h : d < N) (hN : N < 2 ^ 31 := by omega) : ab_inb (nI d) N = true := by
  unfold ab_inb
  exact decide_eq_true (vp_in_nI h hN)
theorem cl_nI {d : Nat} (h : d < 2 ^ 31 := by omega) : (nI d).toNatClampNeg = d := nI_clamp h
theorem pu_lt {a b : Nat} (h : a < b) (hb : b < 2 ^ 31 := by omega) : nI a < nI b := (nI_ltI (by omega) hb).mpr h
theorem pu_nlt {a b : Nat} (h : b ≤ a) (ha : a < 2 ^ 31 := by omega) : ¬ nI a < nI b := fun q => absurd ((nI_ltI ha (by omega)).mp q) (by omega)
theorem pu_le {a b : Nat} (h : a ≤ b) (hb : b < 2 ^ 31 := by omega) : nI a ≤ nI b := (nI_leI (by omega) hb).mpr h
theorem pu_nle {a b : Nat} (h : b < a) (ha : a < 2 ^ 31 := by omega) : ¬ nI a ≤ nI b := fun q => absurd ((nI_leI ha (by omega)).mp q) (by omega)
theorem pu_ne {a b : Nat} (h : a ≠ b) (ha : a < 2 ^ 31 := by omega) (hb : b < 2 ^ 31 := by omega) : ¬ nI a = nI b := fun q => h ((nI_eq ha hb).mp q)
/-! against written numbers: pl has the number on the right, pr on the left -/
theorem pl_lt {a b : Nat} (h : a < b) (hb : b < 2 ^ 31 := by first | omega | decide) : nI a < @OfNat.ofNat Int32 b _ := pu_lt h hb
theorem pl_nlt {a b : Nat} (h : b ≤ a) (ha : a < 2 ^ 31 := by first | omega | decide) : ¬ nI a < @OfNat.ofNat Int32 b _ := pu_nlt h ha
theorem pl_le {a b : Nat} (h : a ≤ b) (hb : b < 2 ^ 31 := by first | omega | decide) : nI a ≤ @OfNat.ofNat Int32 b _ := pu_le h hb
theorem pl_nle {a b : Nat} (h : b < a) (ha : a < 2 ^ 31 := by first | omega | decide) : ¬ nI a ≤ @OfNat.ofNat Int32 b _ := pu_nle h ha
theorem pl_ne {a b : Nat} (h : a ≠ b) (ha : a < 2 ^ 31 := by first | omega | decide) (hb : b < 2 ^ 31 := by first | omega | decide) : ¬ nI a = @OfNat.ofNat Int32 b _ := pu_ne h ha hb
theorem pr_lt {a b : Nat} (h : b < a) (ha : a < 2 ^ 31 := by first | omega | decide) : @OfNat.ofNat Int32 b _ < nI a := pu_lt h ha
theorem pr_nlt {a b : Nat} (h : a ≤ b) (hb : b < 2 ^ 31 := by first | omega | decide) : ¬ @OfNat.ofNat Int32 b _ < nI a := pu_nlt h hb
theorem pr_le {a b : Nat} (h : b ≤ a) (ha : a < 2 ^ 31 := by first | omega | decide) : @OfNat.ofNat Int32 b _ ≤ nI a := pu_le h ha
theorem pr_nle {a b : Nat} (h : a < b) (hb : b < 2 ^ 31 := by first | omega | decide) : ¬ @OfNat.ofNat Int32 b _ ≤ nI a := pu_nle h hb
theorem pu_n1 {a : Nat} (ha : a < 2 ^ 31 := by omega) : ¬ nI a = -1 := fun q => by
  have h := nI_toInt ha
  rw [q] at h
  have : ((-1 : Int32)).toInt = -1 := by decide
  omega
theorem pu_n1l {a : Nat} (ha : a < 2 ^ 31 := by omega) : ¬ nI a < 0 := nI_pos ha
theorem pu_n0 {a : Nat} (h0 : 0 < a) (ha : a < 2 ^ 31 := by omega) : ¬ nI a = 0 := nI_ne0 h0 ha
/-- an int by a range -/
theorem pu_rng (x : Int32) (lo hi : Nat) (hl : lo < 2 ^ 31 := by omega) (h : hi < 2 ^ 31 := by omega) : (x < nI lo ∨ nI hi < x) ∨ ∃ k : Nat, lo ≤ k ∧ k ≤ hi ∧ x = nI k := by
  by_cases h1 : x < nI lo
  · exact Or.inl (Or.inl h1)
  · by_cases h2 : nI hi < x
    · exact Or.inl (Or.inr h2)
    · rw [Int32.lt_iff_toInt_lt, nI_toInt hl] at h1
      rw [Int32.lt_iff_toInt_lt, nI_toInt h] at h2
      obtain ⟨k, hk, e⟩ := nI_of (x := x) (by rw [Int32.lt_iff_toInt_lt, Int32.toInt_zero]; omega)
      rw [e, nI_toInt hk] at h1 h2
      exact Or.inr ⟨k, by omega, by omega, e⟩
/-- an int as a place of n -/
theorem pu_ix (x : Int32) (n : Nat) (h0 : 0 < n) (h : n < 2 ^ 31 := by omega) : (x < 0 ∨ nI n ≤ x) ∨ ∃ k : Nat, k < n ∧ x = nI k := by
  rcases pk_ix x h with q | q | q
  · exact Or.inl (Or.inl q)
  · exact Or.inl (Or.inr q)
  · exact Or.inr q
theorem pu_ixI {x : Int32} {n : Nat} (h : x < 0 ∨ nI n ≤ x) (hn : n < 2 ^ 31 := by omega) : x.toInt < 0 ∨ (n : Int) ≤ x.toInt := by
  rcases h with h | h
  · rw [Int32.lt_iff_toInt_lt, Int32.toInt_zero] at h; exact Or.inl h
  · rw [Int32.le_iff_toInt_le, nI_toInt hn] at h; exact Or.inr h
theorem pu_rgI {x : Int32} {lo hi : Nat} (h : x < nI lo ∨ nI hi < x) (hl : lo < 2 ^ 31 := by omega) (hh : hi < 2 ^ 31 := by omega) : x.toInt < (lo : Int) ∨ (hi : Int) < x.toInt := by
  rcases h with h | h
  · rw [Int32.lt_iff_toInt_lt, nI_toInt hl] at h; exact Or.inl h
  · rw [Int32.lt_iff_toInt_lt, nI_toInt hh] at h; exact Or.inr h
theorem within_eq (a lo hi : Int64) : fX10_within a lo hi = some (bI (lo ≤ a ∧ a ≤ hi)) := by
  unfold fX10_within fX10_within_b17 fX10_within_b18
  by_cases h1 : a < lo
  · rw [if_pos ((lg_cmp_lt _ _).mpr h1), bI_f (fun h => by have h2 := h.1; rw [Int64.le_iff_toInt_le] at h2; rw [Int64.lt_iff_toInt_lt] at h1; omega)]
    rfl
  · rw [if_neg (fun h => h1 ((lg_cmp_lt _ _).mp h))]
    by_cases h2 : hi < a
    · rw [if_pos ((lg_cmp_gt _ _).mpr h2), bI_f (fun h => by have h3 := h.2; rw [Int64.le_iff_toInt_le] at h3; rw [Int64.lt_iff_toInt_lt] at h2; omega)]
      rfl
    · rw [if_neg (fun h => h2 ((lg_cmp_gt _ _).mp h)), bI_t ⟨by rw [Int64.le_iff_toInt_le]; rw [Int64.lt_iff_toInt_lt] at h1; omega, by rw [Int64.le_iff_toInt_le]; rw [Int64.lt_iff_toInt_lt] at h2; omega⟩]
      rfl
theorem pu_wi_no {x : Int32} {lo hi : Nat} (h : x < nI lo ∨ nI hi < x) (hl : lo < 2 ^ 31 := by omega) (hh : hi < 2 ^ 31 := by omega) : fX10_within x.toInt64 (lN lo) (lN hi) = some 0 := by
  rw [within_eq, bI_f]
  have := pu_rgI h
  rw [Int64.le_iff_toInt_le, Int64.le_iff_toInt_le, Int32.toInt_toInt64, lN_toInt hl, lN_toInt hh]
  omega
theorem pu_wi_yes {k lo hi : Nat} (h1 : lo ≤ k) (h2 : k ≤ hi) (hh : hi < 2 ^ 31 := by omega) : fX10_within (nI k).toInt64 (lN lo) (lN hi) = some 1 := by
  rw [within_eq, bI_t]
  rw [Int64.le_iff_toInt_le, Int64.le_iff_toInt_le, Int32.toInt_toInt64, lN_toInt (by omega), lN_toInt hh, nI_toInt (by omega)]
  omega
theorem pu_has_no {σ : ab_S} {n : Nat} {x : Int32} (hn : σ.1 1 0 3 = nI n) (h : x < 0 ∨ nI n ≤ x) : fX7_has x σ = some 0 := by
  unfold fX7_has fX7_has_b16 fX7_has_b17
  by_cases h1 : x < 0
  · rw [if_pos h1]; rfl
  · rw [if_neg h1, hn, if_pos (h.resolve_left h1)]; rfl
theorem pu_has_yes {σ : ab_S} {n d : Nat} (hn : σ.1 1 0 3 = nI n) (h : d < n) (h5 : n < 2 ^ 31 := by omega) : fX7_has (nI d) σ = some 1 := by
  unfold fX7_has fX7_has_b17
  rw [if_neg pu_n1l, hn, if_neg (pu_nle h)]; rfl
theorem pu_isDoor_no {σ : ab_S} {n : Nat} {x : Int32} (hn : σ.1 0 0 6 = nI n) (h : x < 0 ∨ nI n ≤ x) (h1 : 1 ≤ n) (h5 : n < 2 ^ 31 := by omega) : fX10_isDoor x.toInt64 σ = some 0 := by
  unfold fX10_isDoor
  have e : nI n - 1 = nI (n - 1) := by rw [show n = n - 1 + 1 by omega, nI_pred]; rfl
  rw [hn, e, nI_l (n := n - 1) (by omega), show (0 : Int64) = lN 0 from rfl, pu_wi_no (lo := 0) (hi := n - 1)]
  · rfl
  · rcases pu_ixI h with q | q
    · exact Or.inl (by rw [Int32.lt_iff_toInt_lt, nI_toInt (by omega)]; omega)
    · exact Or.inr (by rw [Int32.lt_iff_toInt_lt, nI_toInt (by omega)]; omega)
theorem pu_isDoor_yes {σ : ab_S} {n d : Nat} (hn : σ.1 0 0 6 = nI n) (h : d < n) (h5 : n < 2 ^ 31 := by omega) : fX10_isDoor (nI d).toInt64 σ = some 1 := by
  unfold fX10_isDoor
  have e : nI n - 1 = nI (n - 1) := by rw [show n = n - 1 + 1 by omega, nI_pred]; rfl
  rw [hn, e, nI_l (n := n - 1) (by omega), show (0 : Int64) = lN 0 from rfl, pu_wi_yes (lo := 0) (hi := n - 1) (by omega) (by omega)]
  rfl
theorem pu_isPart_no {x : Int32} (h : x < nI 0 ∨ nI 1 < x) : fX9_isPart x = some 0 := by
  have q := pu_rgI h
  unfold fX9_isPart fX9_isPart_b14
  rw [if_neg (fun e => by rw [e, Int32.toInt_zero] at q; omega), if_neg (fun e => by rw [e, show (1 : Int32).toInt = 1 from rfl] at q; omega)]
  rfl
theorem pu_isPart_yes {k : Nat} (h : k ≤ 1) : fX9_isPart (nI k) = some 1 := by
  rcases (show k = 0 ∨ k = 1 by omega) with rfl | rfl <;> rfl
theorem pu_isWeight_no {x : Int32} (h : x < nI 0 ∨ nI 12 < x) : fX9_isWeight x = some 0 := by
  unfold fX9_isWeight fX9_isWeight_b14 fX9_isWeight_b15
  by_cases h1 : x < 0
  · rw [if_pos h1]; rfl
  · rw [if_neg h1, if_pos (show 12 < x from h.resolve_left h1)]; rfl
theorem pu_isWeight_yes {k : Nat} (h : k ≤ 12) : fX9_isWeight (nI k) = some 1 := by
  unfold fX9_isWeight fX9_isWeight_b15
  rw [if_neg pu_n1l, if_neg (pr_nlt h)]; rfl
theorem pu_areHostsC_no {x : Int32} (h : x < nI 1 ∨ nI 15 < x) : fX9_areHosts x = some 0 := by
  unfold fX9_areHosts fX9_areHosts_b15 fX9_areHosts_b16
  by_cases h1 : x < 1
  · rw [if_pos h1]; rfl
  · rw [if_neg h1, if_pos (show 15 < x from h.resolve_left h1)]; rfl
theorem pu_areHostsC_yes {k : Nat} (h1 : 1 ≤ k) (h : k ≤ 15) : fX9_areHosts (nI k) = some 1 := by
  unfold fX9_areHosts fX9_areHosts_b16
  rw [if_neg (pl_nlt h1), if_neg (pr_nlt h)]; rfl
theorem pu_areHostsM_no {x : Int32} (h : x < nI 1 ∨ nI 15 < x) : fX10_areHosts x = some 0 := by
  unfold fX10_areHosts
  rw [show (1 : Int64) = lN 1 from rfl, show (15 : Int64) = lN 15 from rfl, pu_wi_no (lo := 1) (hi := 15) h]; rfl
theorem pu_areHostsM_yes {k : Nat} (h1 : 1 ≤ k) (h : k ≤ 15) : fX10_areHosts (nI k) = some 1 := by
  unfold fX10_areHosts
  rw [show (1 : Int64) = lN 1 from rfl, show (15 : Int64) = lN 15 from rfl, pu_wi_yes (lo := 1) (hi := 15) h1 h]; rfl
theorem pu_isHost_no {x : Int32} (h : x < 0 ∨ nI 4 ≤ x) : fX1_isHost x = some 0 := by
  unfold fX1_isHost fX1_isHost_b13 fX1_isHost_b14
  by_cases h1 : x < 0
  · rw [if_pos h1]; rfl
  · rw [if_neg h1, if_pos (show 4 ≤ x from h.resolve_left h1)]; rfl
theorem pu_isHost_yes {k : Nat} (h : k < 4) : fX1_isHost (nI k) = some 1 := by
  unfold fX1_isHost fX1_isHost_b14
  rw [if_neg pu_n1l, if_neg (pr_nle h)]; rfl
theorem pu_isKind_no {x : Int32} (h : x < 0 ∨ nI 8 ≤ x) : fX0_isKind x = some 0 := by
  unfold fX0_isKind fX0_isKind_b14 fX0_isKind_b15
  by_cases h1 : x < 0
  · rw [if_pos h1]; rfl
  · rw [if_neg h1, if_pos (show 8 ≤ x from h.resolve_left h1)]; rfl
theorem pu_isKind_yes {k : Nat} (h : k < 8) : fX0_isKind (nI k) = some 1 := by
  unfold fX0_isKind fX0_isKind_b15
  rw [if_neg pu_n1l, if_neg (pr_nle h)]; rfl
theorem pu_isSort_no {x : Int32} (h : x < nI 0 ∨ nI 4 < x) : fX6_isSort x = some 0 := by
  unfold fX6_isSort fX6_isSort_b13 fX6_isSort_b14
  by_cases h1 : x < 0
  · rw [if_pos h1]; rfl
  · rw [if_neg h1, if_pos (show 4 < x from h.resolve_left h1)]; rfl
theorem pu_isSort_yes {k : Nat} (h : k ≤ 4) : fX6_isSort (nI k) = some 1 := by
  unfold fX6_isSort fX6_isSort_b14
  rw [if_neg pu_n1l, if_neg (pr_nlt h)]; rfl
theorem pu_hasS_no {x : Int32} (h : x < 0 ∨ nI 6 ≤ x) : fX6_has x = some 0 := by
  unfold fX6_has fX6_has_b14 fX6_has_b15
  by_cases h1 : x < 0
  · rw [if_pos h1]; rfl
  · rw [if_neg h1, if_pos (show 6 ≤ x from h.resolve_left h1)]; rfl
theorem pu_hasS_yes {k : Nat} (h : k < 6) : fX6_has (nI k) = some 1 := by
  unfold fX6_has fX6_has_b15
  rw [if_neg pu_n1l, if_neg (pr_nle h)]; rfl
theorem pu_ixr {x : Int32} {n : Nat} (h : x < 0 ∨ nI (n + 1) ≤ x) (hn : n + 1 < 2 ^ 31 := by omega) : x < nI 0 ∨ nI n < x := by
  rcases pu_ixI h with q | q
  · exact Or.inl (by rw [Int32.lt_iff_toInt_lt, nI_toInt (by omega)]; omega)
  · exact Or.inr (by rw [Int32.lt_iff_toInt_lt, nI_toInt (by omega)]; omega)
theorem pu_isShelf_no {x : Int32} (h : x < 0 ∨ nI 6 ≤ x) : fX10_isShelf x = some 0 := by
  unfold fX10_isShelf
  rw [show (0 : Int64) = lN 0 from rfl, show (5 : Int64) = lN 5 from rfl, pu_wi_no (lo := 0) (hi := 5) (pu_ixr h)]; rfl
theorem pu_isShelf_yes {k : Nat} (h : k < 6) : fX10_isShelf (nI k) = some 1 := by
  unfold fX10_isShelf
  rw [show (0 : Int64) = lN 0 from rfl, show (5 : Int64) = lN 5 from rfl, pu_wi_yes (lo := 0) (hi := 5) (by omega) (by omega)]; rfl
/-! sets of doors as numbers below 32 -/
def pc (s : Nat) : Nat := s % 2 + s / 2 % 2 + s / 4 % 2 + s / 8 % 2 + s / 16 % 2
theorem pu_isInC : ∀ s, s < 32 → ∀ k, k < 5 → fX9_isIn (nI s) (nI k) = some (if s.testBit k then 1 else 0) := by decide +kernel
theorem pu_isInM : ∀ s, s < 32 → ∀ k, k < 5 → fX10_isIn (nI s) (nI k) = some (if s.testBit k then 1 else 0) := by decide +kernel
theorem pu_or : ∀ s, s < 32 → ∀ k, k < 5 → nI s ||| (1 <<< (nI k &&& 31)) = nI (s ||| 2 ^ k) ∧ s ||| 2 ^ k < 32 := by decide +kernel
theorem pu_pcC : ∀ s, s < 32 → fJ6_bitCount_0f7a4 (nI s) = some (nI (pc s)) ∧ pc s ≤ 5 := by decide +kernel
theorem pu_pcM : ∀ s, s < 32 → fX10_bitsOf (nI s) = some (nI (pc s)) := by decide +kernel
theorem pu_bitor : ∀ s, s < 32 → ∀ k, k < 5 → ∀ j, j < 5 → (s ||| 2 ^ k).testBit j = (s.testBit j || decide (j = k)) := by decide +kernel
/-! the lowest terms -/
theorem pu_lmod {a b : Nat} (ha : a < 2 ^ 63) (h0 : 0 < b) (hb : b < 2 ^ 63) : ab_lmod (lN a) (lN b) = lN (a % b) := pk_lRem ha h0 hb
theorem pu_l0 {a : Nat} (ha : a < 2 ^ 63) : (lg_cmp (lN a) 0 = 0) ↔ a = 0 := by
  rw [lg_cmp_eq, show (0 : Int64) = lN 0 from rfl, pk_lEQ ha (by omega)]
theorem pu_l0' {a : Nat} (ha : a < 2 ^ 63) : (lN a = 0) ↔ a = 0 := by
  rw [show (0 : Int64) = lN 0 from rfl, pk_lEQ ha (by omega)]
theorem pu_gcd {a b : Nat} : Nat.gcd a b = Nat.gcd b (a % b) := by
  rw [Nat.gcd_comm a b, Nat.gcd_rec b a, Nat.gcd_comm]
theorem pu_low0 {v0 v2 : Int64} {v4 : Int32} {big j m : Nat} (hj : j < 200) : fX9_lowest_b9 (m + 1) v0 v2 v4 (lN big) (lN 0) (nI j) = fX9_lowest_b45 v0 v2 v4 (lN big) := by
  show fX9_lowest_b9_o _ _ _ _ _ _ _ = _
  unfold fX9_lowest_b9_o
  rw [if_neg (pr_nle hj), if_pos ((pu_l0 (by omega)).mpr rfl)]
theorem pu_low1 {v0 v2 : Int64} {v4 : Int32} {big small j m : Nat} (hj : j < 200) (hs : 0 < small) (h1 : small < 2 ^ 63) (h2 : big < 2 ^ 63) : fX9_lowest_b9 (m + 1) v0 v2 v4 (lN big) (lN small) (nI j) = fX9_lowest_b9 m v0 v2 v4 (lN small) (lN (big % small)) (nI (j + 1)) := by
  show fX9_lowest_b9_o _ _ _ _ _ _ _ = _
  unfold fX9_lowest_b9_o
  rw [if_neg (pr_nle hj), if_neg (fun h => by rw [pu_l0 h1] at h; omega), if_neg (fun h => by rw [pu_l0' h1] at h; omega), pu_lmod h2 hs h1, nI_1]
theorem pu_low (v0 v2 : Int64) (v4 : Int32) : ∀ (k big small j fuel : Nat), small < 2 ^ k → k ≤ 63 → big < 2 ^ 63 → 2 * k + j < 200 → 2 * k < fuel → fX9_lowest_b9 fuel v0 v2 v4 (lN big) (lN small) (nI j) = fX9_lowest_b45 v0 v2 v4 (lN (Nat.gcd big small)) := by
  intro k
  induction k with
  | zero =>
    intro big small j fuel h1 _ h2 h3 h4
    obtain ⟨m, rfl⟩ : ∃ m, fuel = m + 1 := ⟨fuel - 1, by omega⟩
    have : small = 0 := by simp at h1; exact h1
    subst this
    rw [pu_low0 (by omega), Nat.gcd_zero_right]
  | succ k ih =>
    intro big small j fuel h1 hk h2 h3 h4
    obtain ⟨m, rfl⟩ : ∃ m, fuel = m + 2 := ⟨fuel - 2, by omega⟩
    have hp : 2 ^ (k + 1) ≤ 2 ^ 63 := Nat.pow_le_pow_right (by omega) hk
    have hp2 : 2 ^ (k + 1) = 2 * 2 ^ k := by rw [Nat.pow_succ, Nat.mul_comm]
    by_cases hs : small = 0
    · subst hs
      rw [pu_low0 (by omega), Nat.gcd_zero_right]
    · rw [pu_low1 (by omega) (by omega) (by omega) h2, pu_gcd (a := big)]
      have hr : big % small < small := Nat.mod_lt _ (by omega)
      generalize hrr : big % small = r at hr
      by_cases hr0 : r = 0
      · subst hr0
        rw [pu_low0 (by omega), Nat.gcd_zero_right]
      · rw [pu_low1 (by omega) (by omega) (by omega) (by omega), pu_gcd (a := small)]
        have h5 : small % r < r := Nat.mod_lt _ (by omega)
        have h6 : small % r < 2 ^ k := by
          have h7 : small % r ≤ small - r := by
            rw [Nat.mod_eq_sub_mod (by omega)]
            exact Nat.mod_le _ _
          omega
        exact ih r (small % r) (j + 2) m h6 (by omega) (by omega) (by omega) (by omega)
def frac (p a b : Nat) : Nat := if p = 0 then a / Nat.gcd b a else b / Nat.gcd b a
theorem frac_scale {p a b s : Nat} (hs : 0 < s) : frac p (s * a) (s * b) = frac p a b := by
  unfold frac
  rw [Nat.gcd_mul_left, Nat.mul_div_mul_left _ _ hs, Nat.mul_div_mul_left _ _ hs]
theorem frac_scale2 {p a b s a' b' : Nat} (hs : 0 < s) (ha : a' = s * a) (hb : b' = s * b) : frac p a' b' = frac p a b := by rw [ha, hb, frac_scale hs]
theorem pu_lowest {a b p : Nat} (hp : p ≤ 1) (ha : a < 2 ^ 63) (hb : b < 2 ^ 63) (h0 : 0 < b) : fX9_lowest (lN a) (lN b) (nI p) = some (lN (frac p a b)) := by
  unfold fX9_lowest
  rw [show (0 : Int32) = nI 0 from rfl, pu_N, pu_low _ _ _ 63 b a 0 1024 ha (by omega) hb (by omega) (by omega)]
  have hg0 : 0 < Nat.gcd b a := Nat.gcd_pos_of_pos_left _ h0
  have hg : Nat.gcd b a < 2 ^ 63 := Nat.lt_of_le_of_lt (Nat.gcd_le_left _ h0) hb
  unfold fX9_lowest_b45 fX9_lowest_b70 frac
  rw [if_neg (fun h => by rw [pu_l0 hg] at h; omega)]
  rcases (show p = 0 ∨ p = 1 by omega) with rfl | rfl
  · rw [if_pos (show nI 0 = 0 from rfl), if_neg (fun h => by rw [pu_l0' hg] at h; omega), if_pos (show 0 = 0 from rfl), pk_lDiv ha hg0 hg]
  · rw [if_neg (pu_n0 (by omega)), if_neg (fun h => by rw [pu_l0' hg] at h; omega), if_neg (by omega), pk_lDiv hb hg0 hg]
theorem pu_com : ∀ (k big small fuel : Nat), small < 2 ^ k → k ≤ 63 → big < 2 ^ 63 → 2 * k < fuel → fX10_commonOf_b6 fuel (lN big) (lN small) = some (lN (Nat.gcd big small)) := by
  have z : ∀ (big m : Nat), fX10_commonOf_b6 (m + 1) (lN big) (lN 0) = some (lN big) := fun big m => by
    show fX10_commonOf_b6_o _ _ _ = _
    unfold fX10_commonOf_b6_o
    rw [if_pos ((pu_l0 (by omega)).mpr rfl)]
  have s : ∀ (big small m : Nat), 0 < small → small < 2 ^ 63 → big < 2 ^ 63 → fX10_commonOf_b6 (m + 1) (lN big) (lN small) = fX10_commonOf_b6 m (lN small) (lN (big % small)) := fun big small m hs h1 h2 => by
    show fX10_commonOf_b6_o _ _ _ = _
    unfold fX10_commonOf_b6_o
    rw [if_neg (fun h => by rw [pu_l0 h1] at h; omega), if_neg (fun h => by rw [pu_l0' h1] at h; omega), pu_lmod h2 hs h1]
  intro k
  induction k with
  | zero =>
    intro big small fuel h1 _ h2 h4
    obtain ⟨m, rfl⟩ : ∃ m, fuel = m + 1 := ⟨fuel - 1, by omega⟩
    have : small = 0 := by simp at h1; exact h1
    subst this
    rw [z, Nat.gcd_zero_right]
  | succ k ih =>
    intro big small fuel h1 hk h2 h4
    obtain ⟨m, rfl⟩ : ∃ m, fuel = m + 2 := ⟨fuel - 2, by omega⟩
    have hp : 2 ^ (k + 1) ≤ 2 ^ 63 := Nat.pow_le_pow_right (by omega) hk
    have hp2 : 2 ^ (k + 1) = 2 * 2 ^ k := by rw [Nat.pow_succ, Nat.mul_comm]
    by_cases hs : small = 0
    · subst hs
      rw [z, Nat.gcd_zero_right]
    · rw [s _ _ _ (by omega) (by omega) h2, pu_gcd (a := big)]
      have hr : big % small < small := Nat.mod_lt _ (by omega)
      generalize hrr : big % small = r at hr
      by_cases hr0 : r = 0
      · subst hr0
        rw [z, Nat.gcd_zero_right]
      · rw [s _ _ _ (by omega) (by omega) (by omega), pu_gcd (a := small)]
        have h5 : small % r < r := Nat.mod_lt _ (by omega)
        have h6 : small % r < 2 ^ k := by
          have h7 : small % r ≤ small - r := by
            rw [Nat.mod_eq_sub_mod (by omega)]
            exact Nat.mod_le _ _
          omega
        exact ih r (small % r) m h6 (by omega) (by omega) (by omega)
theorem pu_partOf {a b p : Nat} (hp : p ≤ 1) (ha : a < 2 ^ 63) (hb : b < 2 ^ 63) (h0 : 0 < b) : fX10_partOf (lN a) (lN b) (nI p) = some (lN (frac p a b)) := by
  unfold fX10_partOf fX10_partOf_b33
  by_cases hz : a = 0
  · subst hz
    rw [if_pos ((pu_l0 (by omega)).mpr rfl), nI_l (by omega)]
    unfold frac
    rw [Nat.gcd_zero_right]
    rcases (show p = 0 ∨ p = 1 by omega) with rfl | rfl
    · rw [if_pos rfl, Nat.zero_div]
    · rw [if_neg (by omega), Nat.div_self h0]
  · rw [if_neg (fun h => by rw [pu_l0 ha] at h; omega)]
    unfold fX10_commonOf
    rw [pu_N, pu_com 63 b a 1024 ha (by omega) hb (by omega), Option.bind_some]
    have hg0 : 0 < Nat.gcd b a := Nat.gcd_pos_of_pos_left _ h0
    have hg : Nat.gcd b a < 2 ^ 63 := Nat.lt_of_le_of_lt (Nat.gcd_le_left _ h0) hb
    unfold frac
    rcases (show p = 0 ∨ p = 1 by omega) with rfl | rfl
    · rw [if_pos (show nI 0 = 0 from rfl), if_neg (fun h => by rw [pu_l0' hg] at h; omega), if_pos (show 0 = 0 from rfl), pk_lDiv ha hg0 hg]
    · rw [if_neg (pu_n0 (by omega)), if_neg (fun h => by rw [pu_l0' hg] at h; omega), if_neg (by omega), pk_lDiv hb hg0 hg]
theorem pu_partOf0 {b : Int64} {p : Nat} (hp : p ≤ 1) : fX10_partOf (lN 0) b (nI p) = some (lN p) := by
  unfold fX10_partOf
  rw [if_pos ((pu_l0 (by omega)).mpr rfl), nI_l (by omega)]
