/-! PURE, 33: worth, sure -/
theorem sm_mono {f g : Nat → Nat} : ∀ n, (∀ d, d < n → f d ≤ g d) → sm f n ≤ sm g n
  | 0, _ => Nat.le_refl _
  | n + 1, h => by
    unfold sm
    exact Nat.add_le_add (sm_mono n (fun d hd => h d (by omega))) (h n (by omega))
theorem sm_add {f g : Nat → Nat} : ∀ n, sm (fun d => f d + g d) n = sm f n + sm g n
  | 0 => rfl
  | n + 1 => by
    unfold sm
    rw [sm_add n]
    omega
theorem sm_zero : ∀ n, sm (fun _ => 0) n = 0
  | 0 => rfl
  | n + 1 => by
    unfold sm
    rw [sm_zero n]
theorem sm_comm {f : Nat → Nat → Nat} {n : Nat} : ∀ m, sm (fun D => sm (fun x => f D x) n) m = sm (fun x => sm (fun D => f D x) m) n
  | 0 => (sm_zero n).symm
  | m + 1 => by
    have ih := sm_comm (f := f) (n := n) m
    show sm (fun D => sm (fun x => f D x) n) m + sm (fun x => f m x) n = sm (fun x => sm (fun D => f D x) m + f m x) n
    rw [ih, sm_add]
theorem gv_tot {N n way : Nat} {T : Nat → Nat → Nat → Nat → Nat → Nat} (hway : way ≤ 2) (hT : ∀ a r c d x, T a r c d x ≤ 12) (hN : n - 1 ≤ N) : ∀ k a s c w, c < n → gv N n way T k a s c w ≤ 12 ^ (N * k) * sm w n
  | 0, a, s, c, w, hc => by
    have hl := lo_lt (s := s) hc n 0 (by omega)
    unfold gv
    rw [if_neg (by omega), Nat.mul_zero, Nat.pow_zero, Nat.one_mul]
    split
    · exact sm_ge n c hc
    · exact sm_ge n _ hl
  | k + 1, a, s, c, w, hc => by
    have hl := lo_lt (s := s) hc n 0 (by omega)
    have step : ∀ c', c' < n → ac N n T a s c' w (fun s' c' w' => gv N n way T k (a + 1) s' c' w') ≤ 12 ^ (N * (k + 1)) * sm w n := fun c' hc' => by
      unfold ac
      have h1 : sm (fun D => if el c' s D = true then gv N n way T k (a + 1) (s ||| 2 ^ D) c' (fun x => w x * shD N (fun d => T a (pc s) c' d x) c' s D) else 0) n ≤ 12 ^ (N * k) * sm (fun x => sm (fun D => if el c' s D = true then w x * shD N (fun d => T a (pc s) c' d x) c' s D else 0) n) n := by
        rw [← sm_comm, ← sm_mul]
        refine sm_mono n (fun D hD => ?_)
        by_cases he : el c' s D = true
        · simp only [if_pos he]
          exact gv_tot hway hT hN k (a + 1) _ c' _ hc'
        · rw [if_neg he]; exact Nat.zero_le _
      have h2 := gv_tot hway hT hN k (a + 1) s c' (fun x => w x * shN N n (fun d => T a (pc s) c' d x) c' s) hc'
      have h3 : sm (fun x => sm (fun D => if el c' s D = true then w x * shD N (fun d => T a (pc s) c' d x) c' s D else 0) n) n + sm (fun x => w x * shN N n (fun d => T a (pc s) c' d x) c' s) n = 12 ^ N * sm w n := by
        rw [← sm_add, ← sm_mul]
        refine sm_congr n (fun x _ => ?_)
        have e : ∀ D, (if el c' s D = true then w x * shD N (fun d => T a (pc s) c' d x) c' s D else 0) = w x * (if el c' s D = true then shD N (fun d => T a (pc s) c' d x) c' s D else 0) := fun D => by
          split
          · rfl
          · rw [Nat.mul_zero]
        rw [sm_congr n (fun D _ => e D), sm_mul, ← Nat.mul_add]
        unfold shN
        rw [tele (fun d => hT _ _ _ _ _) n (by have := cnt_n (s := s) hc'; omega), Nat.mul_comm]
      calc _ ≤ 12 ^ (N * k) * _ + 12 ^ (N * k) * _ := Nat.add_le_add h1 h2
        _ = 12 ^ (N * k) * (12 ^ N * sm w n) := by rw [← Nat.mul_add, h3]
        _ = 12 ^ (N * (k + 1)) * sm w n := by rw [← Nat.mul_assoc, ← Nat.pow_add, Nat.mul_succ]
    unfold gv
    rw [if_neg (by omega)]
    split
    · exact step _ hl
    · exact step c hc
theorem HV_way0 {N n A c : Nat} {T : Nat → Nat → Nat → Nat → Nat → Nat} {W : Nat → Nat} (hT : ∀ a r c d x, T a r c d x ≤ 12) (hN : n - 1 ≤ N) (hc : c < n) : HV N n 0 T A 0 0 c W = W c * 12 ^ (N * A) := by
  have := gv_HV (N := N) (n := n) (way := 0) (T := T) (by omega) A 0 0 c W
  rw [if_neg (by decide)] at this
  rw [← this, gv_way0 hT hN A 0 0 c W hc]
theorem HV_tot {N n A c : Nat} {T : Nat → Nat → Nat → Nat → Nat → Nat} {W : Nat → Nat} (hT : ∀ a r c d x, T a r c d x ≤ 12) (hN : n - 1 ≤ N) (hc : c < n) : HV N n 1 T A 0 0 c W ≤ sm W n * 12 ^ (N * A) := by
  have := gv_HV (N := N) (n := n) (way := 1) (T := T) (by omega) A 0 0 c W
  rw [if_neg (by decide)] at this
  rw [← this, Nat.mul_comm]
  exact gv_tot (by omega) hT hN A 0 0 c W hc
/-- the class's worth -/
theorem wf_C {n A h c way : Nat} {W : Nat → Nat} {σ : ab_S} (hg : R_gv σ) (hL : LwOK σ) (hn : σ.1 1 0 3 = nI n) (hAs : σ.1 1 0 5 = nI A) (n2 : 2 ≤ n) (n5 : n ≤ 5) (hh : h < 4) (hA1 : 1 ≤ A) (hA : A ≤ 3) (hway : way ≤ 2) (hc : c < n) (hW : ∀ d, d < n → W d ≤ 12 ∧ σ.1 2 0 d = nI (W d)) : ∃ σ', fX1_worthOf (nI h) (nI way) (nI c) σ = some (lN (HV (n - 1) n way (tw σ h) A 0 0 c W), σ') ∧ mI σ' = mI σ ∧ R_gv σ' ∧ ∀ r, r ≠ 29 → r ≠ 31 → σ'.2 r = σ.2 r := by
  have hT : ∀ a r c d x, tw σ h a r c d x ≤ 12 := fun a r c d x => twV_le _ _ _ _ _ _ _ _ _
  unfold fX1_worthOf
  rw [pu_isHost_yes hh, Option.bind_some, if_neg pu_10, pu_has_yes hn hc, Option.bind_some, if_neg pu_10]
  by_cases w0 : way = 0
  · subst w0
    rw [if_pos (show nI 0 = 0 from rfl), if_pos (inb_nI (by omega)), wacts_ok hn hAs (by omega) n5 hA, Option.bind_some, cl_nI (by omega), (hW c hc).2, nI_l (by have := (hW c hc).1; omega), lN_mul, HV_way0 hT (Nat.le_refl _) hc]
    exact ⟨σ, rfl, rfl, hg, fun _ _ _ => rfl⟩
  · obtain ⟨σ1, q1, q2, q3, q4⟩ := ls_ok hg hn n5 hW
    rw [if_neg (pl_ne (b := 0) w0), q1, Option.bind_some, if_pos (inb_nI hh), cl_nI (by omega)]
    have e1 : mI σ1 = mI σ := by unfold mI; rw [q2]
    have hE : EnC n A h (tw σ h) σ1 := ⟨by rw [q2]; exact hn, by rw [q2]; exact hAs, lwok_I e1 hL, by unfold R_gv tw; rw [q2]; exact hg, tw_I e1 h⟩
    obtain ⟨σ2, z1, z2⟩ := ho_ok (way := way) n2 n5 hh hA1 hA (by omega) (by omega) hT 0 0 c W σ1 (by omega) hA1 hE hc (by omega) q4 (fun x hx => by rw [Nat.mul_zero, Nat.pow_zero]; exact (hW x hx).1)
    have z1' : fX1_hostActs 64 h (nI way) 0 0 (nI c) σ1 = _ := z1
    rw [z1']
    exact ⟨σ2, rfl, z2.1.trans e1, z2.2.1, fun r hr hr' => (z2.2.2.1 r hr hr').trans (q3 r hr)⟩
theorem HV_b {N n A h c way : Nat} {W : Nat → Nat} {σ : ab_S} (hway : way ≤ 3) (n5 : n ≤ 5) (hN : n - 1 ≤ N) (N4 : N ≤ 4) (hA : A ≤ 3) (hc : c < n) (hW : ∀ d, d < n → W d ≤ 12) : HV N n way (tw σ h) A 0 0 c W < 2 ^ 63 := by
  have h1 := HV_le (N := N) (n := n) (T := tw σ h) (way := way) hway n5 hN N4 (fun a r c d x => twV_le _ _ _ _ _ _ _ _ _) (k := A) (a := 0) (s := 0) (c := c) (w := W) (M := 12) hc hW
  have h2 := bnd (a := 0) (k := A) (by omega)
  rw [Nat.mul_zero, Nat.pow_zero, Nat.mul_one] at h2
  omega
theorem wh_b {n N A : Nat} {W : Nat → Nat} (n5 : n ≤ 5) (N4 : N ≤ 4) (hA : A ≤ 3) (hW : ∀ d, d < n → W d ≤ 12) : sm W n * 12 ^ (N * A) < 2 ^ 63 := by
  have h1 := sm_le n hW
  have h2 : 12 ^ (N * A) ≤ 12 ^ 12 := Nat.pow_le_pow_right (by decide) (by have := Nat.mul_le_mul N4 hA; omega)
  have h3 : sm W n * 12 ^ (N * A) ≤ 60 * 12 ^ 12 := Nat.mul_le_mul (by omega) h2
  omega
theorem wh_sc {n A : Nat} {W : Nat → Nat} (n1 : 1 ≤ n) (n5 : n ≤ 5) : sm W n * 12 ^ (4 * A) = 12 ^ ((5 - n) * A) * (sm W n * 12 ^ ((n - 1) * A)) := by
  rw [Nat.mul_left_comm, ← Nat.pow_add, ← Nat.add_mul, show 5 - n + (n - 1) = 4 by omega]
section
variable {i : Nat} {σc σm : ab_S}
theorem acts_x {n : Nat} (hst : R_st n σc σm) : ∃ A, 1 ≤ A ∧ A ≤ 3 ∧ σc.1 1 0 5 = nI A ∧ σm.1 1 0 6 = nI A := by
  obtain ⟨⟨A, h1, h2, h3⟩, h4⟩ := hst.2.2.2.2.2
  exact ⟨A, h1, h2, h3, h4.trans h3⟩
theorem pp_worth (h : Rel i σc σm) (hi : i ≤ 3072) (a0 : Int32) (a1 : Int32) (a2 : Int32) : ∃ (r : Int64) (σc1 : ab_S) (σm1 : ab_S), fX9_worth a0 a1 a2 σc = some (r, σc1) ∧ fX10_worth a0 a1 a2 σm = some (r, σm1) ∧ Rel (i + 6) σc1 σm1 := by
  have hh0 := h
  have h0 := Rel_mono h
  obtain ⟨n, b, n2, n5, hst, hev, him, hch, htp, hlw, hgv, hbs, hbd, hsh⟩ := h
  obtain ⟨W, hW, -⟩ := st_W hst
  obtain ⟨A, hA1, hA, eA, eA'⟩ := acts_x hst
  obtain ⟨⟨k, hk, k1⟩, k2⟩ := hst.2.2.2.2.1
  unfold fX9_worth fX10_worth fX9_worth_b27 fX10_worth_b31 fX10_worth_b68
  rcases pu_rng a0 0 2 with hv | ⟨way, w0, w2, rfl⟩
  · rw [show fX10_within a0.toInt64 0 2 = some 0 from pu_wi_no (lo := 0) (hi := 2) hv]
    refine ⟨_, σc, σm, ?_, rfl, h0⟩
    by_cases q : a0 < 0
    · rw [if_pos q]
    · rw [if_neg q, if_pos (show (2 : Int32) < a0 from hv.resolve_left q)]
  rw [if_neg (pu_n1l (by omega)), if_neg (pr_nlt (b := 2) (by omega)), show fX10_within (nI way).toInt64 0 2 = some 1 from pu_wi_yes (lo := 0) (hi := 2) w0 w2, Option.bind_some, if_neg pu_10]
  rcases pu_ix a1 n (by omega) with hx | ⟨c, hc, rfl⟩
  · rw [pu_has_no hst.1 hx, pu_isDoor_no hst.2.1 hx (by omega)]
    exact ⟨_, σc, σm, rfl, rfl, h0⟩
  rw [pu_has_yes hst.1 hc, pu_isDoor_yes hst.2.1 hc, Option.bind_some, Option.bind_some, if_neg pu_10, if_neg pu_10]
  rcases pu_rng a2 0 1 with hv | ⟨p, p0, p1, rfl⟩
  · rw [pu_isPart_no hv, show fX10_within a2.toInt64 0 1 = some 0 from pu_wi_no (lo := 0) (hi := 1) hv]
    exact ⟨_, σc, σm, rfl, rfl, h0⟩
  rw [pu_isPart_yes p1, show fX10_within (nI p).toInt64 0 1 = some 1 from pu_wi_yes (lo := 0) (hi := 1) p0 p1, Option.bind_some, Option.bind_some, if_neg pu_10, if_neg pu_10, tg_c hst.1 n5 (fun d hd => (hW d (by omega)).2.1), al_m hst.2.1 n5 (fun d hd => (hW d (by omega)).2.2), Option.bind_some, Option.bind_some]
  have sb := sm_le (f := W) (B := 12) n (fun d hd => (hW d (by omega)).1)
  by_cases hz : sm W n = 0
  · rw [hz]
    exact ⟨-2, σc, σm, rfl, rfl, h0⟩
  rw [if_neg (pl_ne (b := 0) hz), if_neg (pl_ne (b := 0) hz), if_pos (show ab_inb 5 7 = true from rfl), show ((5 : Int32)).toNatClampNeg = 5 from rfl, k2, k1]
  obtain ⟨σ1, q1, q2, q3, q4⟩ := wf_C (h := k) (way := way) (c := c) hgv (lwok hlw) hst.1 eA n2 n5 hk hA1 hA w2 hc (fun d hd => ⟨(hW d (by omega)).1, (hW d (by omega)).2.1⟩)
  obtain ⟨σ2, z1, z2⟩ := wf_ok (h := k) (way := way) (c := c) (σc := σc) ⟨hlw, hst.2.1, eA'⟩ n5 hk hA w2 hc (fun d hd => ⟨(hW d (by omega)).1, (hW d (by omega)).2.2⟩)
  rw [HV_sc n5 hc] at z1
  have hW' : ∀ d, d < n → W d ≤ 12 := fun d hd => (hW d (by omega)).1
  rw [q1, z1, Option.bind_some, Option.bind_some]
  dsimp only
  rw [ww_C (W := W) (by rw [mI_get q2 rfl]; exact hst.1) (by rw [mI_get q2 rfl]; exact eA) (by omega) n5 hA (fun d hd => ⟨hW' d hd, by rw [mI_get q2 rfl]; exact (hW d (by omega)).2.1⟩), wo_M (W := W) (by rw [mJ_get z2.1 rfl]; exact hst.2.1) (by rw [mJ_get z2.1 rfl]; exact eA') n5 hA (fun d hd => ⟨hW' d hd, by rw [mJ_get z2.1 rfl]; exact (hW d (by omega)).2.2⟩), Option.bind_some, Option.bind_some]
  have b1 := HV_b (N := n - 1) (n := n) (A := A) (h := k) (c := c) (way := way) (W := W) (σ := σc) (by omega) n5 (by omega) (by omega) hA hc hW'
  have b2 := HV_b (N := 4) (n := n) (A := A) (h := k) (c := c) (way := way) (W := W) (σ := σc) (by omega) n5 (by omega) (by omega) hA hc hW'
  rw [HV_sc n5 hc] at b2
  have b3 := wh_b (N := n - 1) (A := A) n5 (by omega) hA hW'
  have b4 := wh_b (N := 4) (A := A) n5 (by omega) hA hW'
  have hK : 0 < 12 ^ ((5 - n) * A) := Nat.pow_pos (by decide)
  have hp : 0 < sm W n * 12 ^ ((n - 1) * A) := Nat.mul_pos (by omega) (Nat.pow_pos (by decide))
  rw [pu_lowest p1 b1 b3 hp, pu_partOf p1 b2 b4 (Nat.mul_pos (by omega) (Nat.pow_pos (by decide))), wh_sc (by omega) n5, frac_scale hK]
  exact ⟨_, σ1, σ2, rfl, rfl, Rel_fr hh0 (mB_I q2 (q4 43 (by omega) (by omega)) (q4 32 (by omega) (by omega))) (frM_mM z2) q3⟩
end
