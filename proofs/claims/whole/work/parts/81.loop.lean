
section LW
variable {p : Program} {l : Launch} {e : Env} {s : State} {m : MethodId} {below : List Frame} {meth : Method} {c : Code} {b L : Nat} {xs : Nat → Int32} {D : va_G} {cA : Nat → ClassId} {adC adM : Nat → Nat → Nat}
set_option maxHeartbeats 4000000 in
theorem lw_sw (I : lw_I p s m meth c b L xs D cA adC adM) {i : Nat} (hi : i + 6 ≤ L) (hL : L ≤ 3072) {x3 : Int32} (ex : x3 = nI i) {σc σm : ab_S} (hR : Rel i σc σm) (K : ∀ σc σm, Rel (i + 6) σc σm → lw_G p l e s m below meth c b D cA adC adM x3 1438 σc σm) {H : Heap} {locs : List Loc} {ls : Array Slot} (hP : va_P D vwCl (ab_ws yC adC cA σc) H) (hP2 : va_P D vwCl (ab_ws yM adM cA σm) H) (hS : va_S (lw_A s) s.heap H locs) (hl : lv_has ls 4 [(0, .ref b), (1, .ref (adC 0 0)), (2, .ref (adM 0 0)), (3, .int x3)]) (j : Nat) (hj : j < 64) : W p l e room_1 s m #[Value.ref b] below meth c H locs 600000 7302250 (lw_Z below #[Value.ref b] s) (F0 m 33 ls [.int (nI j)]) := by
  have hx := I.1.1
  have hb := I.1.2.1
  have hn : (nI j).toInt = (j : Int) := nI_toInt (by omega)
  match j, hj, hn with
  | 0, _, _ =>
    refine lv_tableIn (tgt := 208) hx hb dL_33 (by decide) (by decide) rfl (by decide) ?_
    exact lw_c0 I hi hL ex hR K H locs ls hP hP2 hS hl
  | 1, _, _ =>
    refine lv_tableIn (tgt := 231) hx hb dL_33 (by decide) (by decide) rfl (by decide) ?_
    exact lw_c1 I hi hL ex hR K H locs ls hP hP2 hS hl
  | 2, _, _ =>
    refine lv_tableIn (tgt := 274) hx hb dL_33 (by decide) (by decide) rfl (by decide) ?_
    exact lw_c2 I hi hL ex hR K H locs ls hP hP2 hS hl
  | 3, _, _ =>
    refine lv_tableIn (tgt := 317) hx hb dL_33 (by decide) (by decide) rfl (by decide) ?_
    exact lw_c3 I hi hL ex hR K H locs ls hP hP2 hS hl
  | 4, _, _ =>
    refine lv_tableIn (tgt := 350) hx hb dL_33 (by decide) (by decide) rfl (by decide) ?_
    exact lw_c4 I hi hL ex hR K H locs ls hP hP2 hS hl
  | 5, _, _ =>
    refine lv_tableIn (tgt := 373) hx hb dL_33 (by decide) (by decide) rfl (by decide) ?_
    exact lw_c5 I hi hL ex hR K H locs ls hP hP2 hS hl
  | 6, _, _ =>
    refine lv_tableIn (tgt := 396) hx hb dL_33 (by decide) (by decide) rfl (by decide) ?_
    exact lw_c6 I hi hL ex hR K H locs ls hP hP2 hS hl
  | 7, _, _ =>
    refine lv_tableIn (tgt := 419) hx hb dL_33 (by decide) (by decide) rfl (by decide) ?_
    exact lw_c7 I hi hL ex hR K H locs ls hP hP2 hS hl
  | 8, _, _ =>
    refine lv_tableIn (tgt := 442) hx hb dL_33 (by decide) (by decide) rfl (by decide) ?_
    exact lw_c8 I hi hL ex hR K H locs ls hP hP2 hS hl
  | 9, _, _ =>
    refine lv_tableIn (tgt := 465) hx hb dL_33 (by decide) (by decide) rfl (by decide) ?_
    exact lw_c9 I hi hL ex hR K H locs ls hP hP2 hS hl
  | 10, _, _ =>
    refine lv_tableIn (tgt := 478) hx hb dL_33 (by decide) (by decide) rfl (by decide) ?_
    exact lw_c10 I hi hL ex hR K H locs ls hP hP2 hS hl
  | 11, _, _ =>
    refine lv_tableIn (tgt := 512) hx hb dL_33 (by decide) (by decide) rfl (by decide) ?_
    exact lw_c11 I hi hL ex hR K H locs ls hP hP2 hS hl
  | 12, _, _ =>
    refine lv_tableIn (tgt := 525) hx hb dL_33 (by decide) (by decide) rfl (by decide) ?_
    exact lw_c12 I hi hL ex hR K H locs ls hP hP2 hS hl
  | 13, _, _ =>
    refine lv_tableIn (tgt := 549) hx hb dL_33 (by decide) (by decide) rfl (by decide) ?_
    exact lw_c13 I hi hL ex hR K H locs ls hP hP2 hS hl
  | 14, _, _ =>
    refine lv_tableIn (tgt := 583) hx hb dL_33 (by decide) (by decide) rfl (by decide) ?_
    exact lw_c14 I hi hL ex hR K H locs ls hP hP2 hS hl
  | 15, _, _ =>
    refine lv_tableIn (tgt := 627) hx hb dL_33 (by decide) (by decide) rfl (by decide) ?_
    exact lw_c15 I hi hL ex hR K H locs ls hP hP2 hS hl
  | 16, _, _ =>
    refine lv_tableIn (tgt := 651) hx hb dL_33 (by decide) (by decide) rfl (by decide) ?_
    exact lw_c16 I hi hL ex hR K H locs ls hP hP2 hS hl
  | 17, _, _ =>
    refine lv_tableIn (tgt := 695) hx hb dL_33 (by decide) (by decide) rfl (by decide) ?_
    exact lw_c17 I hi hL ex hR K H locs ls hP hP2 hS hl
  | 18, _, _ =>
    refine lv_tableIn (tgt := 729) hx hb dL_33 (by decide) (by decide) rfl (by decide) ?_
    exact lw_c18 I hi hL ex hR K H locs ls hP hP2 hS hl
  | 19, _, _ =>
    refine lv_tableIn (tgt := 773) hx hb dL_33 (by decide) (by decide) rfl (by decide) ?_
    exact lw_c19 I hi hL ex hR K H locs ls hP hP2 hS hl
  | 20, _, _ =>
    refine lv_tableIn (tgt := 806) hx hb dL_33 (by decide) (by decide) rfl (by decide) ?_
    exact lw_c20 I hi hL ex hR K H locs ls hP hP2 hS hl
  | 21, _, _ =>
    refine lv_tableIn (tgt := 839) hx hb dL_33 (by decide) (by decide) rfl (by decide) ?_
    exact lw_c21 I hi hL ex hR K H locs ls hP hP2 hS hl
  | 22, _, _ =>
    refine lv_tableIn (tgt := 882) hx hb dL_33 (by decide) (by decide) rfl (by decide) ?_
    exact lw_c22 I hi hL ex hR K H locs ls hP hP2 hS hl
  | 23, _, _ =>
    refine lv_tableIn (tgt := 915) hx hb dL_33 (by decide) (by decide) rfl (by decide) ?_
    exact lw_c23 I hi hL ex hR K H locs ls hP hP2 hS hl
  | 24, _, _ =>
    refine lv_tableIn (tgt := 949) hx hb dL_33 (by decide) (by decide) rfl (by decide) ?_
    exact lw_c24 I hi hL ex hR K H locs ls hP hP2 hS hl
  | 25, _, _ =>
    refine lv_tableIn (tgt := 972) hx hb dL_33 (by decide) (by decide) rfl (by decide) ?_
    exact lw_c25 I hi hL ex hR K H locs ls hP hP2 hS hl
  | 26, _, _ =>
    refine lv_tableIn (tgt := 995) hx hb dL_33 (by decide) (by decide) rfl (by decide) ?_
    exact lw_c26 I hi hL ex hR K H locs ls hP hP2 hS hl
  | 27, _, _ =>
    refine lv_tableIn (tgt := 1008) hx hb dL_33 (by decide) (by decide) rfl (by decide) ?_
    exact lw_c27 I hi hL ex hR K H locs ls hP hP2 hS hl
  | 28, _, _ =>
    refine lv_tableIn (tgt := 1021) hx hb dL_33 (by decide) (by decide) rfl (by decide) ?_
    exact lw_c28 I hi hL ex hR K H locs ls hP hP2 hS hl
  | 29, _, _ =>
    refine lv_tableIn (tgt := 1034) hx hb dL_33 (by decide) (by decide) rfl (by decide) ?_
    exact lw_c29 I hi hL ex hR K H locs ls hP hP2 hS hl
  | 30, _, _ =>
    refine lv_tableIn (tgt := 1047) hx hb dL_33 (by decide) (by decide) rfl (by decide) ?_
    exact lw_c30 I hi hL ex hR K H locs ls hP hP2 hS hl
  | 31, _, _ =>
    refine lv_tableIn (tgt := 1070) hx hb dL_33 (by decide) (by decide) rfl (by decide) ?_
    exact lw_c31 I hi hL ex hR K H locs ls hP hP2 hS hl
  | 32, _, _ =>
    refine lv_tableIn (tgt := 1113) hx hb dL_33 (by decide) (by decide) rfl (by decide) ?_
    exact lw_c32 I hi hL ex hR K H locs ls hP hP2 hS hl
  | 33, _, _ =>
    refine lv_tableIn (tgt := 1136) hx hb dL_33 (by decide) (by decide) rfl (by decide) ?_
    exact lw_c33 I hi hL ex hR K H locs ls hP hP2 hS hl
  | 34, _, _ =>
    refine lv_tableIn (tgt := 1169) hx hb dL_33 (by decide) (by decide) rfl (by decide) ?_
    exact lw_c34 I hi hL ex hR K H locs ls hP hP2 hS hl
  | 35, _, _ =>
    refine lv_tableIn (tgt := 1212) hx hb dL_33 (by decide) (by decide) rfl (by decide) ?_
    exact lw_c35 I hi hL ex hR K H locs ls hP hP2 hS hl
  | 36, _, _ =>
    refine lv_tableIn (tgt := 1285) hx hb dL_33 (by decide) (by decide) rfl (by decide) ?_
    exact lw_c36 I hi hL ex hR K H locs ls hP hP2 hS hl
  | 37, _, _ =>
    refine lv_tableIn (tgt := 1319) hx hb dL_33 (by decide) (by decide) rfl (by decide) ?_
    exact lw_c37 I hi hL ex hR K H locs ls hP hP2 hS hl
  | 38, _, _ =>
    refine lv_tableIn (tgt := 1382) hx hb dL_33 (by decide) (by decide) rfl (by decide) ?_
    exact lw_c38 I hi hL ex hR K H locs ls hP hP2 hS hl
  | 39, _, _ =>
    refine lv_tableIn (tgt := 1415) hx hb dL_33 (by decide) (by decide) rfl (by decide) ?_
    exact lw_c39 I hi hL ex hR K H locs ls hP hP2 hS hl
  | j + 40, _, hn =>
    refine lv_tableOut (tgt := 1438) hx hb dL_33 (Or.inr (by rw [hn]; omega)) (by decide) ?_
    exact K _ _ (Rel_mono hR) H locs ls hP hP2 hS hl
set_option maxHeartbeats 4000000 in
theorem lw_loop (I : lw_I p s m meth c b L xs D cA adC adM) (hL : L ≤ 3072) : ∀ (n i : Nat), L + 6 ≤ i + n → i ≤ L + 6 → ∀ (σc σm : ab_S), Rel i σc σm → lw_G p l e s m below meth c b D cA adC adM (nI i) 18 σc σm := by
  intro n
  induction n with
  | zero =>
    intro i h1 h2 σc σm hR H locs ls hP hP2 hS hl
    obtain ⟨⟨hx, hb, hr, hml, hown, hts0, hX, hbl, hlk, hgv⟩, hK, hDC, hDM, hdis, hSt, hNw⟩ := id I
    have hbA : ¬ lw_A s b := Nat.not_le.mpr hbl
    refine lv_iload_n hx hb dL_18 rfl (lv_at hl 3 rfl) ?_
    refine lv_aload_n hx hb dL_19 rfl (lv_at hl 0 rfl) ?_
    refine va_slen hx hb hX hbl hbA hS dL_20 ?_
    refine lv_bipush (v := 6) hx hb dL_21 rfl ?_
    refine lv_isub hx hb dL_23 ?_
    refine lv_icmp_gt (tgt := 1444) hx hb dL_24 (by decide) (fun _ => ?_) (fun hc => ?_)
    · refine lv_iconst (v := 1) hx hb dL_1444 rfl ?_
      refine va_forget (fun q hq => hS.2.2 q hq) ?_
      exact lw_ret hx hb hr hlk dL_1445
    · exfalso
      apply hc
      rw [Int32.lt_iff_toInt_lt, show Int32.ofNat L = nI L from rfl, show (6 : Int32) = nI 6 from rfl, pk_sub_toInt (by omega) (by omega), nI_toInt (by omega)]
      omega
  | succ n ih =>
    intro i h1 h2 σc σm hR H locs ls hP hP2 hS hl
    obtain ⟨⟨hx, hb, hr, hml, hown, hts0, hX, hbl, hlk, hgv⟩, hK, hDC, hDM, hdis, hSt, hNw⟩ := id I
    have hbA : ¬ lw_A s b := Nat.not_le.mpr hbl
    refine lv_iload_n hx hb dL_18 rfl (lv_at hl 3 rfl) ?_
    refine lv_aload_n hx hb dL_19 rfl (lv_at hl 0 rfl) ?_
    refine va_slen hx hb hX hbl hbA hS dL_20 ?_
    refine lv_bipush (v := 6) hx hb dL_21 rfl ?_
    refine lv_isub hx hb dL_23 ?_
    refine lv_icmp_gt (tgt := 1444) hx hb dL_24 (by decide) (fun _ => ?_) (fun hc => ?_)
    · refine lv_iconst (v := 1) hx hb dL_1444 rfl ?_
      refine va_forget (fun q hq => hS.2.2 q hq) ?_
      exact lw_ret hx hb hr hlk dL_1445
    · have hi : i + 6 ≤ L := by
        rw [Int32.lt_iff_toInt_lt, show Int32.ofNat L = nI L from rfl, show (6 : Int32) = nI 6 from rfl, pk_sub_toInt (by omega) (by omega), nI_toInt (by omega)] at hc
        omega
      refine lv_aload_n hx hb dL_27 rfl (lv_at hl 0 rfl) ?_
      refine lv_iload_n hx hb dL_28 rfl (lv_at hl 3 rfl) ?_
      refine va_sld hx hb hX hbl hbA hS (vp_in_nI (by omega) (by omega)) dL_29 ?_
      refine lv_bipush (v := 63) hx hb dL_30 rfl ?_
      refine lv_iand hx hb dL_32 ?_
      obtain ⟨j, hj, ej⟩ := pk_andE (xs (nI i).toNatClampNeg) (m := 63) 6 (by decide)
      rw [ej]
      refine lw_sw I hi hL rfl hR (fun σc σm hR => ?_) hP hP2 hS hl j hj
      intro H locs ls hP hP2 hS hl
      refine lv_iinc (v := nI (i + 6)) (lv' := [(3, .int (nI (i + 6))), (0, .ref b), (1, .ref (adC 0 0)), (2, .ref (adM 0 0))]) hx hb dL_1438 hl (k := 3) rfl (by show nI i + nI 6 = _; rw [nI_add]) (by decide) rfl (fun ls hl => ?_)
      refine lv_goto (tgt := 18) hx hb dL_1441 (by decide) ?_
      exact ih (i + 6) (by omega) (by omega) σc σm hR H locs ls hP hP2 hS (lv_sub hl [1, 2, 3, 0] rfl)
end LW
