/-! PURE, 27: acts to come, in numbers -/
def HV (N n way : Nat) (T : Nat → Nat → Nat → Nat → Nat → Nat) : Nat → Nat → Nat → Nat → (Nat → Nat) → Nat
  | 0, _, s, c, w => w (if way = 1 then lo s c n 0 else c)
  | k + 1, a, s, c, w => hv N n way T k a s c w
theorem gv_HV {N n way : Nat} {T : Nat → Nat → Nat → Nat → Nat → Nat} (hw : way ≤ 2) : ∀ k a s c w, gv N n way T k a s c w = HV N n way T k a s (if way = 2 then lo s c n 0 else c) w
  | 0, a, s, c, w => by
    unfold gv HV
    rw [if_neg (by omega)]
    rcases (show way = 0 ∨ way = 1 ∨ way = 2 by omega) with rfl | rfl | rfl <;> rfl
  | k + 1, a, s, c, w => by
    unfold gv HV hv
    rw [if_neg (by omega)]
theorem gv_HV3 {N n : Nat} {T : Nat → Nat → Nat → Nat → Nat → Nat} : ∀ k a s c w, gv N n 3 T k a s c w = mx (fun d => if s.testBit d = true then 0 else HV N n 3 T k a s d w) n
  | 0, a, s, c, w => rfl
  | k + 1, a, s, c, w => rfl
theorem lo_lt {s c n : Nat} (hc : c < n) : ∀ k d, d + k = n → lo s c k d < n
  | 0, _, _ => hc
  | k + 1, d, h => by
    unfold lo
    split
    · omega
    · exact lo_lt hc k (d + 1) (by omega)
theorem mx_le {f : Nat → Nat} {B : Nat} : ∀ n, (∀ d, d < n → f d ≤ B) → mx f n ≤ B
  | 0, _ => Nat.zero_le _
  | n + 1, h => by
    unfold mx
    split
    · exact h n (by omega)
    · exact mx_le n (fun d hd => h d (by omega))
theorem mx_sc {f : Nat → Nat} {K : Nat} (hK : 0 < K) : ∀ n, mx (fun d => K * f d) n = K * mx f n
  | 0 => rfl
  | n + 1 => by
    unfold mx
    rw [mx_sc hK n]
    by_cases h : mx f n < f n
    · rw [if_pos h, if_pos ((Nat.mul_lt_mul_left hK).mpr h)]
    · rw [if_neg h, if_neg (fun z => h ((Nat.mul_lt_mul_left hK).mp z))]
theorem mx_congr {f g : Nat → Nat} : ∀ n, (∀ d, d < n → f d = g d) → mx f n = mx g n
  | 0, _ => rfl
  | n + 1, h => by
    unfold mx
    rw [mx_congr n (fun d hd => h d (by omega)), h n (by omega)]
theorem bst_sc {f : Nat → Nat} {K : Nat} (hK : 0 < K) : ∀ n, bst (fun d => K * f d) n = (K * (bst f n).1, (bst f n).2)
  | 0 => rfl
  | n + 1 => by
    unfold bst
    rw [bst_sc hK n]
    by_cases h : n = 0 ∨ (bst f n).1 < f n
    · rw [if_pos h, if_pos (h.imp id (Nat.mul_lt_mul_left hK).mpr)]
    · rw [if_neg h, if_neg (fun z => h (z.imp id (Nat.mul_lt_mul_left hK).mp))]
theorem bst_congr {f g : Nat → Nat} : ∀ n, (∀ d, d < n → f d = g d) → bst f n = bst g n
  | 0, _ => rfl
  | n + 1, h => by
    unfold bst
    rw [bst_congr n (fun d hd => h d (by omega)), h n (by omega)]
theorem bst_le {f : Nat → Nat} {B : Nat} : ∀ n, (∀ d, d < n → f d ≤ B) → (bst f n).1 ≤ B
  | 0, _ => Nat.zero_le _
  | n + 1, h => by
    unfold bst
    split
    · exact h n (by omega)
    · exact bst_le n (fun d hd => h d (by omega))
theorem bst_lt {f : Nat → Nat} : ∀ n, 0 < n → (bst f n).2 < n
  | 0, h => by omega
  | n + 1, _ => by
    unfold bst
    by_cases h : n = 0 ∨ (bst f n).1 < f n
    · rw [if_pos h]; exact Nat.lt_succ_self n
    · rw [if_neg h]
      have := bst_lt (f := f) n (by omega)
      omega
section
variable {N n : Nat} {T : Nat → Nat → Nat → Nat → Nat → Nat}
theorem ac_le {a s c M B : Nat} {w : Nat → Nat} {G : Nat → Nat → (Nat → Nat) → Nat} (n5 : n ≤ 5) (hN : n - 1 ≤ N) (N4 : N ≤ 4) (hc : c < n) (hT : ∀ a r c d x, T a r c d x ≤ 12) (hw : ∀ x, x < n → w x ≤ M) (hG : ∀ s' w', (∀ x, x < n → w' x ≤ M * 12 ^ 4) → G s' c w' ≤ B) : ac N n T a s c w G ≤ 6 * B := by
  unfold ac
  have p : 12 ^ N ≤ 12 ^ 4 := Nat.pow_le_pow_right (by decide) N4
  have h1 := sm_le (f := fun D => if el c s D = true then G (s ||| 2 ^ D) c (fun x => w x * shD N (fun d => T a (pc s) c d x) c s D) else 0) (B := B) n (fun D hD => by
    split
    · next he =>
      refine hG _ _ (fun x hx => ?_)
      have := cnt_D hc hD he
      exact Nat.mul_le_mul (hw x hx) (Nat.le_trans (shD_le (by omega) (hT _ _ _ _ _)) p)
    · exact Nat.zero_le _)
  have h2 := hG s (fun x => w x * shN N n (fun d => T a (pc s) c d x) c s) (fun x hx => Nat.mul_le_mul (hw x hx) (Nat.le_trans (shN_le (by have := cnt_n (s := s) hc; omega)) p))
  have h3 : n * B ≤ 5 * B := Nat.mul_le_mul_right B n5
  omega
theorem gv_le {way : Nat} (hway : way ≤ 3) (n5 : n ≤ 5) (hN : n - 1 ≤ N) (N4 : N ≤ 4) (hT : ∀ a r c d x, T a r c d x ≤ 12) : ∀ k a s c w M, c < n → (∀ x, x < n → w x ≤ M) → gv N n way T k a s c w ≤ 6 ^ k * (M * 12 ^ (4 * k))
  | 0, a, s, c, w, M, hc, hw => by
    have hl := lo_lt (s := s) hc n 0 (by omega)
    unfold gv
    simp only [Nat.mul_zero, Nat.pow_zero, Nat.mul_one, Nat.one_mul]
    split
    · exact mx_le n (fun d hd => by
        split
        · exact Nat.zero_le _
        · exact hw d hd)
    · split
      · exact hw c hc
      · exact hw _ hl
  | k + 1, a, s, c, w, M, hc, hw => by
    have hl := lo_lt (s := s) hc n 0 (by omega)
    have step : ∀ c', c' < n → ac N n T a s c' w (fun s' c' w' => gv N n way T k (a + 1) s' c' w') ≤ 6 ^ (k + 1) * (M * 12 ^ (4 * (k + 1))) := fun c' hc' => by
      have := ac_le (a := a) (s := s) (c := c') (M := M) (B := 6 ^ k * (M * 12 ^ (4 * (k + 1)))) (w := w) (G := fun s' c' w' => gv N n way T k (a + 1) s' c' w') n5 hN N4 hc' hT hw (fun s' w' hw' => by
        have h := gv_le hway n5 hN N4 hT k (a + 1) s' c' w' (M * 12 ^ 4) hc' hw'
        rw [Nat.mul_assoc M, ← Nat.pow_add, show 4 + 4 * k = 4 * (k + 1) by omega] at h
        exact h)
      rw [Nat.pow_succ, Nat.mul_comm (6 ^ k) 6, Nat.mul_assoc]
      exact this
    unfold gv
    split
    · exact mx_le n (fun d hd => by
        split
        · exact Nat.zero_le _
        · exact step d hd)
    · split
      · exact step _ hl
      · exact step c hc
theorem gv_0 {way : Nat} (hway : way ≤ 3) (n5 : n ≤ 5) (hN : n - 1 ≤ N) (N4 : N ≤ 4) (hT : ∀ a r c d x, T a r c d x ≤ 12) {k a s c : Nat} {w : Nat → Nat} (hc : c < n) (hw : ∀ x, x < n → w x = 0) : gv N n way T k a s c w = 0 := by
  have := gv_le (N := N) (T := T) hway n5 hN N4 hT k a s c w 0 hc (fun x hx => by rw [hw x hx]; exact Nat.le_refl _)
  rw [Nat.zero_mul, Nat.mul_zero] at this
  omega
theorem HV_le {way : Nat} (hway : way ≤ 3) (n5 : n ≤ 5) (hN : n - 1 ≤ N) (N4 : N ≤ 4) (hT : ∀ a r c d x, T a r c d x ≤ 12) {k a s c : Nat} {w : Nat → Nat} {M : Nat} (hc : c < n) (hw : ∀ x, x < n → w x ≤ M) : HV N n way T k a s c w ≤ 6 ^ k * (M * 12 ^ (4 * k)) := by
  cases k with
  | zero =>
    have hl := lo_lt (s := s) hc n 0 (by omega)
    show w (if way = 1 then lo s c n 0 else c) ≤ _
    simp only [Nat.mul_zero, Nat.pow_zero, Nat.mul_one, Nat.one_mul]
    split
    · exact hw _ hl
    · exact hw c hc
  | succ k =>
    show ac N n T a s c w (fun s' c' w' => gv N n way T k (a + 1) s' c' w') ≤ _
    have := ac_le (a := a) (s := s) (c := c) (M := M) (B := 6 ^ k * (M * 12 ^ (4 * (k + 1)))) (w := w) (G := fun s' c' w' => gv N n way T k (a + 1) s' c' w') n5 hN N4 hc hT hw (fun s' w' hw' => by
      have h := gv_le (N := N) (T := T) hway n5 hN N4 hT k (a + 1) s' c w' (M * 12 ^ 4) hc hw'
      rw [Nat.mul_assoc M, ← Nat.pow_add, show 4 + 4 * k = 4 * (k + 1) by omega] at h
      exact h)
    rw [Nat.pow_succ, Nat.mul_comm (6 ^ k) 6, Nat.mul_assoc]
    exact this
end
section
variable {n : Nat} {T : Nat → Nat → Nat → Nat → Nat → Nat}
theorem ac_sc {a s c S K : Nat} {w : Nat → Nat} {G4 G : Nat → Nat → (Nat → Nat) → Nat} (n5 : n ≤ 5) (hc : c < n) (hG : ∀ s' w', G4 s' c (fun x => S * 12 ^ (5 - n) * w' x) = K * G s' c w') : ac 4 n T a s c (fun x => S * w x) G4 = K * ac (n - 1) n T a s c w G := by
  unfold ac
  rw [Nat.mul_add, ← sm_mul]
  congr 1
  · refine sm_congr n (fun D hD => ?_)
    by_cases he : el c s D = true
    · rw [if_pos he, if_pos he, ← hG]
      congr 1
      funext x
      rw [shD_sc hc n5 hD he, Nat.mul_mul_mul_comm]
    · rw [if_neg he, if_neg he, Nat.mul_zero]
  · rw [← hG]
    congr 1
    funext x
    rw [shN_sc hc n5, Nat.mul_mul_mul_comm]
theorem gv_sc {way : Nat} (n5 : n ≤ 5) : ∀ k a s c w S, 0 < S → c < n → gv 4 n way T k a s c (fun x => S * w x) = S * 12 ^ ((5 - n) * k) * gv (n - 1) n way T k a s c w
  | 0, a, s, c, w, S, hS, hc => by
    unfold gv
    rw [Nat.mul_zero, Nat.pow_zero, Nat.mul_one]
    split
    · rw [← mx_sc hS]
      refine mx_congr n (fun d _ => ?_)
      split
      · rw [Nat.mul_zero]
      · rfl
    · rfl
  | k + 1, a, s, c, w, S, hS, hc => by
    have hl := lo_lt (s := s) hc n 0 (by omega)
    have hp : 0 < S * 12 ^ (5 - n) := Nat.mul_pos hS (Nat.pow_pos (by decide))
    have step : ∀ c', c' < n → ac 4 n T a s c' (fun x => S * w x) (fun s' c' w' => gv 4 n way T k (a + 1) s' c' w') = S * 12 ^ ((5 - n) * (k + 1)) * ac (n - 1) n T a s c' w (fun s' c' w' => gv (n - 1) n way T k (a + 1) s' c' w') := fun c' hc' => by
      refine ac_sc n5 hc' (fun s' w' => ?_)
      rw [gv_sc n5 k (a + 1) s' c' w' _ hp hc', Nat.mul_assoc S, ← Nat.pow_add, show 5 - n + (5 - n) * k = (5 - n) * (k + 1) by rw [Nat.mul_succ, Nat.add_comm]]
    unfold gv
    split
    · rw [← mx_sc (Nat.mul_pos hS (Nat.pow_pos (by decide)))]
      refine mx_congr n (fun d hd => ?_)
      split
      · rw [Nat.mul_zero]
      · exact step d hd
    · split
      · exact step _ hl
      · exact step c hc
theorem HV_sc {way : Nat} (n5 : n ≤ 5) {k a s c : Nat} {w : Nat → Nat} (hc : c < n) : HV 4 n way T k a s c w = 12 ^ ((5 - n) * k) * HV (n - 1) n way T k a s c w := by
  cases k with
  | zero =>
    show w (if way = 1 then lo s c n 0 else c) = _ * w (if way = 1 then lo s c n 0 else c)
    rw [Nat.mul_zero, Nat.pow_zero, Nat.one_mul]
  | succ k =>
    show ac 4 n T a s c w (fun s' c' w' => gv 4 n way T k (a + 1) s' c' w') = _ * ac (n - 1) n T a s c w (fun s' c' w' => gv (n - 1) n way T k (a + 1) s' c' w')
    have := ac_sc (T := T) (a := a) (s := s) (c := c) (S := 1) (K := 12 ^ ((5 - n) * (k + 1))) (w := w) (G4 := fun s' c' w' => gv 4 n way T k (a + 1) s' c' w') (G := fun s' c' w' => gv (n - 1) n way T k (a + 1) s' c' w') n5 hc (fun s' w' => by
      rw [gv_sc n5 k (a + 1) s' c w' _ (Nat.mul_pos (by decide) (Nat.pow_pos (by decide))) hc, Nat.one_mul, ← Nat.pow_add, show 5 - n + (5 - n) * k = (5 - n) * (k + 1) by rw [Nat.mul_succ, Nat.add_comm]])
    rw [← this]
    congr 1
    funext x
    rw [Nat.one_mul]
theorem tele {N c s : Nat} {g : Nat → Nat} (hg : ∀ d, g d ≤ 12) : ∀ d, cnt c s d ≤ N → sm (fun D => if el c s D = true then shD N g c s D else 0) d + pre g c s d * 12 ^ (N - cnt c s d) = 12 ^ N
  | 0, _ => by simp [sm, pre, cnt]
  | d + 1, h => by
    have hst : cnt c s (d + 1) = if el c s d = true then cnt c s d + 1 else cnt c s d := rfl
    have hpr : pre g c s (d + 1) = if el c s d = true then pre g c s d * (12 - g d) else pre g c s d := rfl
    unfold sm
    by_cases he : el c s d = true
    · rw [if_pos he] at hst hpr
      rw [hst] at h
      have ih := tele (N := N) (c := c) (s := s) hg d (by omega)
      rw [if_pos he, hst, hpr]
      unfold shD
      have e : N - cnt c s d = (N - (cnt c s d + 1)) + 1 := by omega
      rw [e, Nat.pow_succ, Nat.mul_comm (12 ^ _) 12, ← Nat.mul_assoc] at ih
      rw [show N - cnt c s d - 1 = N - (cnt c s d + 1) by omega, Nat.add_assoc, ← Nat.add_mul, ← Nat.mul_add, show g d + (12 - g d) = 12 by have := hg d; omega]
      exact ih
    · rw [if_neg he] at hst hpr
      rw [if_neg he, hst, hpr, Nat.add_zero]
      rw [hst] at h
      exact tele hg d h
theorem gv_way0 {N : Nat} (hT : ∀ a r c d x, T a r c d x ≤ 12) (hN : n - 1 ≤ N) : ∀ k a s c w, c < n → gv N n 0 T k a s c w = w c * 12 ^ (N * k)
  | 0, a, s, c, w, hc => by
    unfold gv
    rw [if_neg (by decide), if_pos rfl, Nat.mul_zero, Nat.pow_zero, Nat.mul_one]
  | k + 1, a, s, c, w, hc => by
    unfold gv
    rw [if_neg (by decide), if_neg (by decide)]
    unfold ac
    dsimp only
    have ht := tele (N := N) (c := c) (s := s) (g := fun d => T a (pc s) c d c) (fun d => hT _ _ _ _ _) n (by have := cnt_n (s := s) hc; omega)
    rw [gv_way0 hT hN k (a + 1) s c _ hc]
    have e : ∀ D, (if el c s D = true then gv N n 0 T k (a + 1) (s ||| 2 ^ D) c (fun x => w x * shD N (fun d => T a (pc s) c d x) c s D) else 0) = w c * 12 ^ (N * k) * (if el c s D = true then shD N (fun d => T a (pc s) c d c) c s D else 0) := fun D => by
      split
      · rw [gv_way0 hT hN k (a + 1) _ c _ hc, Nat.mul_right_comm]
      · rw [Nat.mul_zero]
    rw [sm_congr n (fun D _ => e D), sm_mul, Nat.mul_right_comm (w c) (shN _ _ _ _ _), ← Nat.mul_add]
    unfold shN
    rw [ht, Nat.mul_assoc, ← Nat.pow_add, Nat.mul_succ]
end
