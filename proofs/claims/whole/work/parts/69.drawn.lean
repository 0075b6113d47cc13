/-! PURE, 38: drawn -/
theorem us_8 (x : Int32) : ∃ v, v < 2 ^ 24 ∧ ab_ushr x 8 = nI v := by
  have h8 : (Int32.toUInt32 8 &&& Int32.toUInt32 31) = 8 := by decide
  refine ⟨(x.toUInt32 >>> 8).toNat, ?_, ?_⟩
  · rw [UInt32.toNat_shiftRight]
    have := x.toUInt32.toNat_lt
    rw [show ((8 : UInt32)).toNat % 32 = 8 from rfl, Nat.shiftRight_eq_div_pow]
    omega
  · unfold ab_ushr
    rw [h8]
    show UInt32.toInt32 (x.toUInt32 >>> 8) = Int32.ofNat (x.toUInt32 >>> 8).toNat
    generalize x.toUInt32 >>> 8 = u
    have : Int32.ofNat u.toNat = (UInt32.ofNat u.toNat).toInt32 := rfl
    rw [this, UInt32.ofNat_toNat]
/-- one drawing below k -/
def dz (z : Int32) : Int32 := z * 1103515245 + 12345
theorem dr_x (z : Int32) {k : Nat} (hk : 0 < k) (hk2 : k < 2 ^ 31) : ∃ v, v < k ∧ ab_mod (ab_ushr (dz z) 8) (nI k) = nI v := by
  obtain ⟨v, hv, e⟩ := us_8 (dz z)
  refine ⟨v % k, Nat.mod_lt _ hk, ?_⟩
  rw [e]
  exact pk_rem (d := k) (by omega) hk hk2
theorem dr_C {σ : ab_S} {k : Nat} (hk : 0 < k) (hk2 : k < 2 ^ 31) : fX3_drawOf (nI k) σ = some (ab_mod (ab_ushr (dz (σ.1 35 0 2)) 8) (nI k), ab_si σ 35 0 2 (dz (σ.1 35 0 2))) := by
  unfold fX3_drawOf fX3_drawOf_b32
  rw [pu_k, if_neg (fun z => by rw [Int32.le_iff_toInt_le, nI_toInt hk2, Int32.toInt_zero] at z; omega), if_neg (pu_n0 hk hk2), pu_siE]
  rfl
theorem dr_M {σ : ab_S} {k : Nat} (hk : 0 < k) (hk2 : k < 2 ^ 31) : fX10_draws (nI k) σ = some (ab_mod (ab_ushr (dz (σ.1 0 0 26)) 8) (nI k), ab_si σ 0 0 26 (dz (σ.1 0 0 26))) := by
  unfold fX10_draws
  rw [pu_k, if_neg (pu_n0 hk hk2), pu_siE]
  rfl
