/-! PURE, 14: the class works a law out -/
def stk (f : Nat → Int32) : List Int32 → Prop
  | [] => True
  | x :: st => f st.length = x ∧ stk f st
theorem stk_to {f f' : Nat → Int32} : ∀ st : List Int32, (∀ i, i < st.length → f' i = f i) → stk f st → stk f' st
  | [], _, _ => trivial
  | x :: st, h, hs => ⟨(h st.length (by simp)).trans hs.1, stk_to st (fun i hi => h i (by simp; omega)) hs.2⟩
def cl (cod : Nat → Int32) : Nat → Nat → List Int32
  | _, 0 => []
  | j, k + 1 => cod j :: cl cod (j + 1) k
theorem cl_range (cod : Nat → Int32) : ∀ k j : Nat, cl cod j k = (List.range' j k).map cod
  | 0, _ => rfl
  | k + 1, j => by
    unfold cl
    rw [cl_range cod k (j + 1)]
    rfl
theorem jn_eq (c l r : Int32) : fX5_joined c l r = some (jn c l r) := by
  unfold fX5_joined jn fX5_joined_b110 fX5_joined_b111 fX5_joined_b168 fX5_joined_b122 fX5_joined_b133 fX5_joined_b144 fX5_joined_b92 fX5_joined_b97 fX5_joined_b180
  by_cases hr : r = 0 <;> simp only [hr, ↓reduceIte] <;> (repeat' split) <;> first | rfl | simp_all
theorem hl_eq (v : Int32) : fX5_held v = some (nI (hl v)) := by
  unfold fX5_held hl
  congr 1
  by_cases h1 : v < 0
  · rw [if_pos h1]
    have h2 : v < 12 := by rw [Int32.lt_iff_toInt_lt, Int32.toInt_zero] at h1; rw [Int32.lt_iff_toInt_lt, show (12 : Int32).toInt = 12 from rfl]; omega
    rw [if_pos h2, if_neg (fun z => by rw [Int32.lt_iff_toInt_lt] at h1 z; omega)]
    rfl
  · rw [if_neg h1]
    obtain ⟨k, hk, rfl⟩ := nI_of h1
    rw [cl_nI hk]
    by_cases h12 : 12 < k
    · rw [if_neg (pl_nlt (b := 12) (by omega)), if_pos (by decide), if_pos (pr_lt (b := 12) h12)]
      rfl
    · rw [if_neg (pr_nlt (b := 12) (by omega))]
      by_cases h : k = 12
      · subst h; rfl
      · rw [if_pos (pl_lt (b := 12) (by omega))]
        by_cases h0 : k = 0
        · subst h0; rfl
        · rw [if_pos (pr_lt (b := 0) (by omega))]
theorem mT26 {σ : ab_S} {c j : Nat} {v : Int32} : (ab_si σ 23 c j v).1 26 = σ.1 26 := pu_siR (by omega)
section
variable {c : Nat}
theorem wk_pop {σ : ab_S} {st : List Int32} (h4 : σ.1 23 c 4 = nI st.length) (hs : stk (σ.1 25 c) st) (hl : st.length ≤ 121) : ∃ σ', fX5_pop c σ = some (hd0 st, σ') ∧ mT σ' = mT σ ∧ σ'.1 26 = σ.1 26 ∧ σ'.1 23 c 4 = nI st.tail.length ∧ stk (σ'.1 25 c) st.tail := by
  unfold fX5_pop
  rw [h4]
  cases st with
  | nil => exact ⟨σ, rfl, rfl, rfl, h4, trivial⟩
  | cons x s =>
    simp only [List.length_cons] at hl h4 ⊢
    rw [if_pos (pr_lt (b := 0) (by omega)), nI_pred]
    simp only [pu_k, pu_siE, inb_nI (show s.length < 121 by omega), cl_nI (d := s.length) (by omega), ↓reduceIte]
    have e : (ab_si σ 23 c 4 (nI s.length)).1 25 c s.length = x := hs.1
    refine ⟨_, by rw [e]; rfl, mT_si rfl, mT26, pu_siE, hs.2⟩
theorem wk_push {σ : ab_S} {st : List Int32} {v : Int32} (h4 : σ.1 23 c 4 = nI st.length) (hs : stk (σ.1 25 c) st) (hl : st.length ≤ 120) : ∃ σ', fX5_push c v σ = some σ' ∧ mT σ' = mT σ ∧ σ'.1 26 = σ.1 26 ∧ σ'.1 23 c 4 = nI (v :: st).length ∧ stk (σ'.1 25 c) (v :: st) := by
  unfold fX5_push
  rw [h4, if_neg (pu_n1l (by omega)), if_pos (pl_lt (b := 121) (by omega)), if_pos (inb_nI (by omega)), cl_nI (by omega)]
  simp only [pu_k]
  have e : (ab_si σ 25 c st.length v).1 23 c 4 = nI st.length := h4
  rw [e, nI_1]
  refine ⟨_, rfl, (mT_si rfl).trans (mT_si rfl), by rw [mT26]; exact pu_siR (by omega), pu_siE, ?_⟩
  show stk ((ab_si σ 25 c st.length v).1 25 c) (v :: st)
  exact ⟨pu_siE, stk_to st (fun i hi => pu_siJ (by omega)) hs⟩
theorem wk_L {a r ch d x dn : Int32} {len : Nat} {cod : Nat → Int32} (hlen : len ≤ 121) : ∀ (k j fuel : Nat) (σ : ab_S) (st : List Int32) (sk : Bool), j + k = len → k < fuel → st.length ≤ j → σ.1 23 c 3 = nI len → σ.1 23 c 6 = dn → (∀ i, i < len → σ.1 24 c i = cod i) → σ.1 23 c 4 = nI st.length → stk (σ.1 25 c) st →
    ∃ σ', fX5_worked_b11 fuel c a r ch d x (if sk = true then 1 else 0) (nI j) σ = some (mach (en a r ch d x dn) (cl cod j k) sk st, σ') ∧ mT σ' = mT σ ∧ σ'.1 26 = σ.1 26 := by
  intro k
  induction k with
  | zero =>
    intro j fuel σ st sk h1 h2 h3 c1 c2 c3 c4 c5
    obtain ⟨f, rfl⟩ : ∃ f, fuel = f + 1 := ⟨fuel - 1, by omega⟩
    refine ⟨σ, ?_, rfl, rfl⟩
    show fX5_worked_b11_o _ _ _ _ _ _ _ _ _ _ = _
    unfold fX5_worked_b11_o fX5_worked_b221
    rw [c1, if_pos (pu_le (by omega))]
    unfold cl mach
    rfl
  | succ k ih =>
    intro j fuel σ st sk h1 h2 h3 c1 c2 c3 c4 c5
    obtain ⟨f, rfl⟩ : ∃ f, fuel = f + 1 := ⟨fuel - 1, by omega⟩
    have go : ∀ (σ1 : ab_S) (st1 : List Int32) (sk1 : Bool), mT σ1 = mT σ → σ1.1 26 = σ.1 26 → st1.length ≤ j + 1 → σ1.1 23 c 4 = nI st1.length → stk (σ1.1 25 c) st1 → ∃ σ', fX5_worked_b11 f c a r ch d x (if sk1 = true then 1 else 0) (nI j + 1) σ1 = some (mach (en a r ch d x dn) (cl cod (j + 1) k) sk1 st1, σ') ∧ mT σ' = mT σ ∧ σ'.1 26 = σ.1 26 := by
      intro σ1 st1 sk1 e1 e2 e3 e4 e5
      rw [nI_1]
      obtain ⟨σ', q1, q2, q3⟩ := ih (j + 1) f σ1 st1 sk1 (by omega) (by omega) e3 (by rw [mT_get e1 rfl]; exact c1) (by rw [mT_get e1 rfl]; exact c2) (fun i hi => by rw [mT_get e1 rfl]; exact c3 i hi) e4 e5
      exact ⟨σ', q1, q2.trans e1, q3.trans e2⟩
    show ∃ σ', fX5_worked_b11_o (fX5_worked_b11 f) c a r ch d x (if sk = true then 1 else 0) (nI j) σ = some (mach (en a r ch d x dn) (cod j :: cl cod (j + 1) k) sk st, σ') ∧ _
    unfold fX5_worked_b11_o fX5_worked_b149 fX5_worked_b169 fX5_worked_b89 fX5_worked_b53 fX5_worked_b215
    rw [c1, if_neg (pu_nle (by omega)), if_neg (pr_nle (b := 121) (by omega)), if_pos (inb_nI (by omega)), cl_nI (by omega), c3 j (by omega)]
    generalize cod j = w
    cases sk with
    | true =>
      simp only [pu_10, ↓reduceIte]
      unfold mach
      by_cases h59 : w = 59
      · rw [if_pos h59]
        have := go σ st false rfl rfl (by omega) c4 c5
        simpa only [h59, decide_true, Bool.not_true, Bool.false_eq_true, ↓reduceIte] using this
      · rw [if_neg h59]
        have := go σ st true rfl rfl (by omega) c4 c5
        simpa only [h59, decide_false, Bool.not_false, ↓reduceIte] using this
    | false =>
      simp only [Bool.false_eq_true, ↓reduceIte]
      obtain ⟨σ1, p1, p2, p3, p4, p5⟩ := wk_pop c4 c5 (by omega)
      have tl : st.tail.length ≤ j := by simp; omega
      unfold mach
      by_cases h59 : w = 59
      · rw [if_pos h59, if_pos h59, p1]
        exact ⟨σ1, rfl, p2, p3⟩
      rw [if_neg h59, if_neg h59]
      by_cases h63 : w = 63
      · rw [if_pos h63, if_pos h63, p1, Option.bind_some]
        by_cases hz : hd0 st = 0
        · rw [if_pos hz, decide_eq_true hz]
          exact go σ1 st.tail true p2 p3 (by omega) p4 p5
        · rw [if_neg hz, decide_eq_false hz]
          exact go σ1 st.tail false p2 p3 (by omega) p4 p5
      rw [if_neg h63, if_neg h63]
      by_cases h1000 : w < 1000
      · rw [if_pos h1000, if_pos h1000]
        have oth : ∃ σ', (if w = 33 then (fX5_pop c σ).bind fun q9 => if q9.1 = 0 then (fX5_push c 1 q9.2).bind fun q1 => fX5_worked_b11 f c a r ch d x 0 (nI j + 1) q1 else (fX5_push c 0 q9.2).bind fun q1 => fX5_worked_b11 f c a r ch d x 0 (nI j + 1) q1 else if w = 126 then (fX5_pop c σ).bind fun q7 => (fX5_push c (-q7.1) q7.2).bind fun q8 => fX5_worked_b11 f c a r ch d x 0 (nI j + 1) q8 else (fX5_pop c σ).bind fun q3 => (fX5_pop c q3.2).bind fun q4 => (fX5_joined w q4.1 q3.1).bind fun q5 => (fX5_push c q5 q4.2).bind fun q6 => fX5_worked_b11 f c a r ch d x 0 (nI j + 1) q6) = some (if w = 33 then mach (en a r ch d x dn) (cl cod (j + 1) k) false ((if hd0 st = 0 then 1 else 0) :: st.tail) else if w = 126 then mach (en a r ch d x dn) (cl cod (j + 1) k) false (-hd0 st :: st.tail) else mach (en a r ch d x dn) (cl cod (j + 1) k) false (jn w (hd0 st.tail) (hd0 st) :: st.tail.tail), σ') ∧ mT σ' = mT σ ∧ σ'.1 26 = σ.1 26 := by
          rw [p1, Option.bind_some]
          by_cases h33 : w = 33
          · rw [if_pos h33, if_pos h33]
            by_cases hz : hd0 st = 0
            · rw [if_pos hz, if_pos hz]
              obtain ⟨σ2, w1, w2, w3, w4, w5⟩ := wk_push (v := 1) p4 p5 (by omega)
              rw [w1, Option.bind_some]
              exact go σ2 _ false (w2.trans p2) (w3.trans p3) (by simp at tl ⊢; omega) w4 w5
            · rw [if_neg hz, if_neg hz]
              obtain ⟨σ2, w1, w2, w3, w4, w5⟩ := wk_push (v := 0) p4 p5 (by omega)
              rw [w1, Option.bind_some]
              exact go σ2 _ false (w2.trans p2) (w3.trans p3) (by simp at tl ⊢; omega) w4 w5
          rw [if_neg h33, if_neg h33]
          by_cases h126 : w = 126
          · rw [if_pos h126, if_pos h126]
            obtain ⟨σ2, w1, w2, w3, w4, w5⟩ := wk_push (v := -hd0 st) p4 p5 (by omega)
            rw [Option.bind_some, w1, Option.bind_some]
            exact go σ2 _ false (w2.trans p2) (w3.trans p3) (by simp at tl ⊢; omega) w4 w5
          rw [if_neg h126, if_neg h126]
          obtain ⟨σ2, y1, y2, y3, y4, y5⟩ := wk_pop p4 p5 (by omega)
          have tl2 : st.tail.tail.length ≤ j := by simp; omega
          obtain ⟨σ3, w1, w2, w3, w4, w5⟩ := wk_push (v := jn w (hd0 st.tail) (hd0 st)) y4 y5 (by omega)
          rw [Option.bind_some, y1, Option.bind_some, jn_eq, Option.bind_some, w1, Option.bind_some]
          exact go σ3 _ false (w2.trans (y2.trans p2)) (w3.trans (y3.trans p3)) (by simp at tl2 ⊢; omega) w4 w5
        by_cases h97 : w < 97
        · rw [if_pos h97, if_pos (Or.inl h97)]
          exact oth
        by_cases h122 : 122 < w
        · rw [if_neg h97, if_pos h122, if_pos (Or.inr h122)]
          exact oth
        rw [if_neg h97, if_neg h122, if_neg (fun z => z.elim h97 h122)]
        have nm : fX5_named c w a r ch d x σ = some (en a r ch d x dn w) := by
          unfold fX5_named en
          rw [c2]
          repeat' split
          all_goals rfl
        obtain ⟨σ2, w1, w2, w3, w4, w5⟩ := wk_push (v := en a r ch d x dn w) c4 c5 (by omega)
        rw [nm, Option.bind_some, w1, Option.bind_some]
        exact go σ2 _ false w2 w3 (by simp; omega) w4 w5
      · rw [if_neg h1000, if_neg h1000]
        obtain ⟨σ2, w1, w2, w3, w4, w5⟩ := wk_push (v := w - 1000) c4 c5 (by omega)
        rw [w1, Option.bind_some]
        exact go σ2 _ false w2 w3 (by simp; omega) w4 w5
theorem wk_ok {a r ch d x : Int32} {len : Nat} {σ : ab_S} (hlen : len ≤ 121) (h3 : σ.1 23 c 3 = nI len) : ∃ σ', fX5_worked c a r ch d x σ = some (mach (en a r ch d x (σ.1 23 c 6)) (cods (σ.1 23 c 3) (σ.1 24 c)) false [], σ') ∧ mT σ' = mT σ ∧ σ'.1 26 = σ.1 26 := by
  unfold fX5_worked
  rw [pu_k]
  have hc : cods (σ.1 23 c 3) (σ.1 24 c) = cl (σ.1 24 c) 0 len := by
    unfold cods
    rw [h3, cl_nI (by omega), cl_range, List.range_eq_range']
  rw [hc]
  have m1 : mT (ab_si σ 23 c 4 0) = mT σ := mT_si rfl
  obtain ⟨σ', q1, q2, q3⟩ := wk_L (c := c) (a := a) (r := r) (ch := ch) (d := d) (x := x) (dn := σ.1 23 c 6) (cod := σ.1 24 c) hlen len 0 ab_N (ab_si σ 23 c 4 0) [] false (by omega) (by rw [pu_N]; omega) (by simp) (by rw [mT_get m1 rfl]; exact h3) (mT_get m1 rfl) (fun i _ => rfl) pu_siE trivial
  exact ⟨σ', q1, q2.trans m1, q3.trans mT26⟩
end
theorem seat_inj {a r c d x a' r' c' d' x' : Nat} (h1 : a < 3) (h2 : r ≤ a) (h3 : c < 5) (h4 : d < 5) (h5 : x < 5) (k1 : a' < 3) (k2 : r' ≤ a') (k3 : c' < 5) (k4 : d' < 5) (k5 : x' < 5) (h : seat a r c d x = seat a' r' c' d' x') : a = a' ∧ r = r' ∧ c = c' ∧ d = d' ∧ x = x' := by
  unfold seat at h
  rcases (show a = 0 ∨ a = 1 ∨ a = 2 by omega) with rfl | rfl | rfl <;> rcases (show a' = 0 ∨ a' = 1 ∨ a' = 2 by omega) with rfl | rfl | rfl <;> simp at h <;> omega
theorem seat_eq {a r c d x : Nat} (h1 : a < 3) (h2 : r ≤ a) (h3 : c < 5) (h4 : d < 5) (h5 : x < 5) : fX5_seatOf (nI a) (nI r) (nI c) (nI d) (nI x) = some (nI (seat a r c d x)) := by
  unfold fX5_seatOf seat
  rw [if_neg (pr_nle (b := 3) h1), if_pos (pu_le h2)]
  have e2 : nI (a * (a + 1)) / 2 = nI (a * (a + 1) / 2) := by
    rcases (show a = 0 ∨ a = 1 ∨ a = 2 by omega) with rfl | rfl | rfl <;> rfl
  rw [nI_1, pk_mul, e2, nI_add, show (5 : Int32) = nI 5 from rfl, pk_mul, nI_add, pk_mul, nI_add, pk_mul, nI_add]
theorem tw_T {σ σ' : ab_S} (h : mT σ' = mT σ) (k : Nat) : tw σ' k = tw σ k := by
  unfold tw
  rw [mT_get (k := k) h (r := 23) (i := 3) rfl, mT_get (k := k) h (r := 23) (i := 5) rfl, mT_get (k := k) h (r := 23) (i := 6) rfl, show σ'.1 24 k = σ.1 24 k from funext fun i => mT_get h rfl]
theorem gv_T {σ σ' : ab_S} (h : mT σ' = mT σ) (h26 : σ'.1 26 = σ.1 26) (hg : R_gv σ) : R_gv σ' := by
  intro k hk
  rw [mT_get h (r := 23) (i := 5) rfl, h26, tw_T h k]
  exact hg k hk
def LwOK (σ : ab_S) : Prop := ∀ h, h < 4 → (σ.1 23 h 5 = 0 ∨ σ.1 23 h 5 = 1) ∧ (σ.1 23 h 5 = 1 → ∃ len, len ≤ 121 ∧ σ.1 23 h 3 = nI len)
theorem lwok_T {σ σ' : ab_S} (h : mT σ' = mT σ) (hg : LwOK σ) : LwOK σ' := by
  intro k hk
  rw [mT_get h (r := 23) (i := 5) rfl, mT_get h (r := 23) (i := 3) rfl]
  exact hg k hk
theorem byte13 : ∀ v, v ≤ 12 → vp_nar .byte ((1 + nI v : Int32).toInt8.toInt32) = nI (1 + v) ∧ nI (1 + v) - 1 = nI v := by
  intro v hv
  have : ∀ v, v < 13 → ((1 + nI v : Int32).toInt8.toInt32).toInt8.toInt32 = nI (1 + v) ∧ nI (1 + v) - 1 = nI v := by decide +kernel
  rw [vp_nar_byte]
  exact this v (by omega)
theorem tw_ok {σ : ab_S} (hg : R_gv σ) (hL : LwOK σ) {h a r c d x : Nat} (hh : h < 4) (ha : a ≤ 3) (hr : r ≤ 5) (hc : c < 5) (hd : d < 5) (hx : x < 5) : ∃ σ', fX5_twelfths h (nI a) (nI r) (nI c) (nI d) (nI x) σ = some (nI (tw σ h a r c d x), σ') ∧ mT σ' = mT σ ∧ R_gv σ' := by
  unfold fX5_twelfths fX5_twelfths_b20 fX5_twelfths_b48 fX5_twelfths_b97
  obtain ⟨l1, l2⟩ := hL h hh
  rcases l1 with l1 | l1
  · rw [l1, if_pos rfl]
    have e : tw σ h a r c d x = if d = x then 0 else 12 := by
      unfold tw twV
      rw [l1, if_pos rfl]
    rw [e]
    by_cases hdx : d = x
    · rw [if_pos (by rw [hdx]), if_pos hdx]
      exact ⟨σ, rfl, rfl, hg⟩
    · rw [if_neg (pu_ne hdx), if_neg hdx]
      exact ⟨σ, rfl, rfl, hg⟩
  · rw [l1, if_neg pu_10]
    obtain ⟨len, hlen, l3⟩ := l2 l1
    obtain ⟨σ1, q1, q2, q3⟩ := wk_ok (c := h) (a := nI a) (r := nI r) (ch := nI c) (d := nI d) (x := nI x) hlen l3
    have e : tw σ h a r c d x = hl (mach (en (nI a) (nI r) (nI c) (nI d) (nI x) (σ.1 23 h 6)) (cods (σ.1 23 h 3) (σ.1 24 h)) false []) := by
      unfold tw twV
      rw [l1, if_neg pu_10]
    have hg1 := gv_T q2 q3 hg
    by_cases hs : a < 3 ∧ r ≤ a
    · obtain ⟨s1, s2⟩ := hs
      have sl := seat_lt s1 s2 hc hd hx
      rw [seat_eq s1 s2 hc hd hx, Option.bind_some, if_neg (pu_n1l (by omega)), if_pos (show nI (seat a r c d x) < Int32.ofNat 750 from pu_lt (b := 750) sl), if_pos (inb_nI sl), cl_nI (by omega)]
      have key := (hg h hh).resolve_left (by rw [l1]; exact pu_10) a r c d x s1 s2 hc hd hx
      by_cases hz : σ.1 26 h (seat a r c d x) = 0
      · rw [if_pos hz, q1, Option.bind_some, hl_eq, ← e, Option.bind_some]
        have tl : tw σ h a r c d x ≤ 12 := twV_le _ _ _ _ _ _ _ _ _
        obtain ⟨b1, b2⟩ := byte13 _ tl
        simp only [pu_k, pu_siE, b1, b2, inb_nI sl, ↓reduceIte]
        refine ⟨_, rfl, (mT_si rfl).trans q2, fun k hk => ?_⟩
        have m3 : mT (ab_si σ1 26 h (seat a r c d x) (nI (1 + tw σ h a r c d x))) = mT σ := (mT_si rfl).trans q2
        rw [tw_T m3 k]
        show σ1.1 23 k 5 = 0 ∨ _
        rw [mT_get q2 (r := 23) (i := 5) rfl]
        rcases hg k hk with w | w
        · exact Or.inl w
        · refine Or.inr (fun a' r' c' d' x' k1 k2 k3 k4 k5 => ?_)
          by_cases hkh : k = h ∧ seat a' r' c' d' x' = seat a r c d x
          · obtain ⟨rfl, e2⟩ := hkh
            obtain ⟨rfl, rfl, rfl, rfl, rfl⟩ := seat_inj k1 k2 k3 k4 k5 s1 s2 hc hd hx e2
            exact Or.inr pu_siE
          · have e3 : (ab_si σ1 26 h (seat a r c d x) (nI (1 + tw σ h a r c d x))).1 26 k (seat a' r' c' d' x') = σ.1 26 k (seat a' r' c' d' x') := by
              rw [show (ab_si σ1 26 h (seat a r c d x) (nI (1 + tw σ h a r c d x))).1 26 k (seat a' r' c' d' x') = σ1.1 26 k (seat a' r' c' d' x') from if_neg (fun z => hkh ⟨z.2.1, z.2.2⟩), q3]
            rw [e3]
            exact w a' r' c' d' x' k1 k2 k3 k4 k5
      · rw [if_neg hz]
        rcases key with w | w
        · exact absurd w hz
        · have tl : tw σ h a r c d x ≤ 12 := twV_le _ _ _ _ _ _ _ _ _
          rw [w, (byte13 _ tl).2, if_pos (inb_nI sl)]
          exact ⟨σ, rfl, rfl, hg⟩
    · have e3 : fX5_seatOf (nI a) (nI r) (nI c) (nI d) (nI x) = some (-1) := by
        unfold fX5_seatOf fX5_seatOf_b10
        by_cases s1 : a < 3
        · rw [if_neg (pr_nle (b := 3) s1), if_neg (pu_nle (by omega))]
        · rw [if_pos (pr_le (b := 3) (by omega))]
      rw [e3, Option.bind_some, if_pos (by decide), q1, Option.bind_some, hl_eq, ← e, Option.bind_some]
      exact ⟨σ1, rfl, q2, hg1⟩
