/-! PURE, 38: drawn -/
theorem us_8 (x : Int32) : ∃ v, v < 2 ^ 24 ∧ ab_ushr x 8 = nI v := by
  have h8 : (Int32.toUInt32 8 &&& Int32.toUInt32 31) = 8 := by decide
  refine ⟨(x.toUInt32 >>> 8).toNat, ?_, ?_⟩
  · rw [UInt32.toNat_shiftRight]
    have := x.toUInt32.toNat_lt
    rw [show ((8 : UInt32)).toNat % 32 = 8 from rfl, Nat.shiftRight_eq_div_pow]
    omega
  · unfold ab_ushr
    rw [h8]
    show UInt32.toInt32 (x.toUInt32 >>> 8) = Int32.ofNat (x.toUInt32 >>> 8).toNat
    generalize x.toUInt32 >>> 8 = u
    have : Int32.ofNat u.toNat = (UInt32.ofNat u.toNat).toInt32 := rfl
    rw [this, UInt32.ofNat_toNat]
/-- one drawing below k -/
def dz (z : Int32) : Int32 := z * 1103515245 + 12345
theorem dr_x (z : Int32) {k : Nat} (hk : 0 < k) (hk2 : k < 2 ^ 31) : ∃ v, v < k ∧ ab_mod (ab_ushr (dz z) 8) (nI k) = nI v := by
  obtain ⟨v, hv, e⟩ := us_8 (dz z)
  refine ⟨v % k, Nat.mod_lt _ hk, ?_⟩
  rw [e]
  exact pk_rem (d := k) (by omega) hk hk2
theorem dr_C {σ : ab_S} {k : Nat} (hk : 0 < k) (hk2 : k < 2 ^ 31) : fX3_drawOf (nI k) σ = some (ab_mod (ab_ushr (dz (σ.1 35 0 2)) 8) (nI k), ab_si σ 35 0 2 (dz (σ.1 35 0 2))) := by
  unfold fX3_drawOf fX3_drawOf_b32
  rw [pu_k, if_neg (fun z => by rw [Int32.le_iff_toInt_le, nI_toInt hk2, Int32.toInt_zero] at z; omega), if_neg (pu_n0 hk hk2), pu_siE]
  rfl
theorem dr_M {σ : ab_S} {k : Nat} (hk : 0 < k) (hk2 : k < 2 ^ 31) : fX10_draws (nI k) σ = some (ab_mod (ab_ushr (dz (σ.1 0 0 26)) 8) (nI k), ab_si σ 0 0 26 (dz (σ.1 0 0 26))) := by
  unfold fX10_draws
  rw [pu_k, if_neg (pu_n0 hk hk2), pu_siE]
  rfl
/-- the door of the cow -/
def cowAt (W : Nat → Nat) : Nat → Nat → Nat → Nat
  | 0, j, _ => j
  | k + 1, j, v => if v < W j then j else cowAt W k (j + 1) (v - W j)
section
variable {n : Nat} {W : Nat → Nat}
theorem cow_C {σ : ab_S} (hn : σ.1 1 0 3 = nI n) (n5 : n ≤ 5) (hW : ∀ d, d < n → W d ≤ 12 ∧ σ.1 2 0 d = nI (W d)) : ∀ (k j v fuel : Nat), j + k = n → k < fuel → v + sm W j < sm W n → fX3_drawCow_b14 fuel (nI v) (nI j) σ = some (nI (cowAt W k j v), σ) ∧ cowAt W k j v < n := by
  have sb := sm_le (f := W) (B := 12) n (fun d hd => (hW d hd).1)
  intro k
  induction k with
  | zero =>
    intro j v fuel h1 h2 h3
    rw [show j = n by omega] at h3
    omega
  | succ k ih =>
    intro j v fuel h1 h2 h3
    obtain ⟨f, rfl⟩ : ∃ f, fuel = f + 1 := ⟨fuel - 1, by omega⟩
    obtain ⟨w1, w2⟩ := hW j (by omega)
    show fX3_drawCow_b14_o _ _ _ _ = _ ∧ (if v < W j then j else cowAt W k (j + 1) (v - W j)) < n
    have e : cowAt W (k + 1) j v = if v < W j then j else cowAt W k (j + 1) (v - W j) := rfl
    unfold fX3_drawCow_b14_o
    rw [hn, if_neg (pu_nle (by omega)), if_pos (inb_nI (by omega)), cl_nI (by omega), w2, e, nI_1]
    by_cases q : v < W j
    · rw [if_pos q, if_neg (fun z => by
        rw [Int32.le_iff_toInt_le, pk_sub_toInt (a := v) (b := W j) (by omega) (by omega), Int32.toInt_zero] at z
        omega)]
      exact ⟨rfl, by omega⟩
    · rw [if_neg q, pk_sub (by omega), if_pos (show (0 : Int32) ≤ nI (v - W j) from pu_le (a := 0) (by omega))]
      exact ih (j + 1) (v - W j) f (by omega) (by omega) (by
        show v - W j + (sm W j + W j) < _
        omega)
theorem cow_M {σ : ab_S} (n5 : n ≤ 5) (hW : ∀ d, d < n → W d ≤ 12 ∧ σ.1 1 0 d = nI (W d)) : ∀ (k j v fuel : Nat), j + k = n → k < fuel → v + sm W j < sm W n → fX10_drawnCow_b11 fuel (nI v) (nI j) σ = some (nI (cowAt W k j v), σ) := by
  have sb := sm_le (f := W) (B := 12) n (fun d hd => (hW d hd).1)
  intro k
  induction k with
  | zero =>
    intro j v fuel h1 h2 h3
    rw [show j = n by omega] at h3
    omega
  | succ k ih =>
    intro j v fuel h1 h2 h3
    obtain ⟨f, rfl⟩ : ∃ f, fuel = f + 1 := ⟨fuel - 1, by omega⟩
    obtain ⟨w1, w2⟩ := hW j (by omega)
    show fX10_drawnCow_b11_o _ _ _ _ = _
    have e : cowAt W (k + 1) j v = if v < W j then j else cowAt W k (j + 1) (v - W j) := rfl
    unfold fX10_drawnCow_b11_o
    rw [if_pos (inb_nI (by omega)), cl_nI (by omega), w2, e, nI_1]
    by_cases q : v < W j
    · rw [if_pos q, if_pos (pu_lt q)]
    · rw [if_neg q, if_neg (pu_nlt (by omega)), if_pos (inb_nI (by omega)), pk_sub (by omega)]
      exact ih (j + 1) (v - W j) f (by omega) (by omega) (by
        show v - W j + (sm W j + W j) < _
        omega)
end
