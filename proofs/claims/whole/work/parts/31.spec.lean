/-! PURE, 1: what both sides mean, in plain numbers -/
/-- a law's codes worked out: names' values, codes, whether it skips, the stack -/
def hd0 : List Int32 → Int32
  | [] => 0
  | x :: _ => x
def jn (c l r : Int32) : Int32 := if c = 38 then (if l = 0 then 0 else if r = 0 then 0 else 1) else if c = 42 then l * r else if c = 43 then l + r else if c = 45 then l - r else if c = 47 then (if r = 0 then 0 else l / r) else if c = 60 then (if r ≤ l then 0 else 1) else if c = 61 then (if l = r then 1 else 0) else if c = 62 then (if l ≤ r then 0 else 1) else if c = 124 then (if l = 0 then (if r = 0 then 0 else 1) else 1) else if r = 0 then 0 else ab_mod l r
def en (a r c d x n k : Int32) : Int32 := if k = 99 then c else if k = 100 then d else if k = 110 then n else if k = 114 then r else if k = 120 then x else a
def mach (env : Int32 → Int32) : List Int32 → Bool → List Int32 → Int32
  | [], _, _ => 0
  | c :: cs, true, st => mach env cs (!decide (c = 59)) st
  | c :: cs, false, st =>
    if c = 59 then hd0 st
    else if c = 63 then mach env cs (decide (hd0 st = 0)) st.tail
    else if c < 1000 then
      (if c < 97 ∨ 122 < c then
        (if c = 33 then mach env cs false ((if hd0 st = 0 then 1 else 0) :: st.tail)
        else if c = 126 then mach env cs false (-hd0 st :: st.tail)
        else mach env cs false (jn c (hd0 st.tail) (hd0 st) :: st.tail.tail))
      else mach env cs false (env c :: st))
    else mach env cs false ((c - 1000) :: st)
def hl (v : Int32) : Nat := if v < 0 then 0 else if 12 < v then 12 else v.toNatClampNeg
theorem hl_le (v : Int32) : hl v ≤ 12 := by
  unfold hl
  split
  · omega
  · split
    · omega
    · next h1 h2 =>
      obtain ⟨j, hj, e⟩ := nI_of h1
      rw [e, cl_nI hj]
      rw [e, Int32.lt_iff_toInt_lt, nI_toInt hj, show (12 : Int32).toInt = 12 from rfl] at h2
      omega
def cods (l3 : Int32) (cod : Nat → Int32) : List Int32 := (List.range l3.toNatClampNeg).map cod
/-- in how many of twelve: act, open ones, chosen, door, cow -/
def twV (l3 l5 l6 : Int32) (cod : Nat → Int32) (a r c d x : Nat) : Nat :=
  if l5 = 0 then (if d = x then 0 else 12) else hl (mach (en (nI a) (nI r) (nI c) (nI d) (nI x) l6) (cods l3 cod) false [])
theorem twV_le (l3 l5 l6 : Int32) (cod : Nat → Int32) (a r c d x : Nat) : twV l3 l5 l6 cod a r c d x ≤ 12 := by
  unfold twV
  split
  · split <;> omega
  · exact hl_le _
def tw (σ : ab_S) (h : Nat) : Nat → Nat → Nat → Nat → Nat → Nat := twV (σ.1 23 h 3) (σ.1 23 h 5) (σ.1 23 h 6) (σ.1 24 h)
/-! doors that he looks at; an act's shares -/
def el (c s d : Nat) : Bool := !decide (d = c) && !s.testBit d
def pre (g : Nat → Nat) (c s : Nat) : Nat → Nat
  | 0 => 1
  | d + 1 => if el c s d = true then pre g c s d * (12 - g d) else pre g c s d
def cnt (c s : Nat) : Nat → Nat
  | 0 => 0
  | d + 1 => if el c s d = true then cnt c s d + 1 else cnt c s d
def shD (N : Nat) (g : Nat → Nat) (c s D : Nat) : Nat := pre g c s D * g D * 12 ^ (N - cnt c s D - 1)
def shN (N n : Nat) (g : Nat → Nat) (c s : Nat) : Nat := pre g c s n * 12 ^ (N - cnt c s n)
def lo (s c : Nat) : Nat → Nat → Nat
  | 0, _ => c
  | k + 1, d => if el c s d = true then d else lo s c k (d + 1)
def sm (f : Nat → Nat) : Nat → Nat
  | 0 => 0
  | d + 1 => sm f d + f d
def mx (f : Nat → Nat) : Nat → Nat
  | 0 => 0
  | d + 1 => if mx f d < f d then f d else mx f d
def bst (f : Nat → Nat) : Nat → Nat × Nat
  | 0 => (0, 0)
  | d + 1 => if d = 0 ∨ (bst f d).1 < f d then (f d, d) else bst f d
def ac (N n : Nat) (T : Nat → Nat → Nat → Nat → Nat → Nat) (a s c : Nat) (w : Nat → Nat) (G : Nat → Nat → (Nat → Nat) → Nat) : Nat :=
  sm (fun D => if el c s D = true then G (s ||| 2 ^ D) c (fun x => w x * shD N (fun d => T a (pc s) c d x) c s D) else 0) n + G s c (fun x => w x * shN N n (fun d => T a (pc s) c d x) c s)
/-- what comes behind an act: acts to come, act's number, open ones, chosen, ways -/
def gv (N n way : Nat) (T : Nat → Nat → Nat → Nat → Nat → Nat) : Nat → Nat → Nat → Nat → (Nat → Nat) → Nat
  | 0, _, s, c, w => if way = 3 then mx (fun d => if s.testBit d then 0 else w d) n else w (if way = 0 then c else lo s c n 0)
  | k + 1, a, s, c, w => if way = 3 then mx (fun d => if s.testBit d then 0 else ac N n T a s d w (fun s' c' w' => gv N n way T k (a + 1) s' c' w')) n else ac N n T a s (if way = 2 then lo s c n 0 else c) w (fun s' c' w' => gv N n way T k (a + 1) s' c' w')
def hv (N n way : Nat) (T : Nat → Nat → Nat → Nat → Nat → Nat) (k a s c : Nat) (w : Nat → Nat) : Nat := ac N n T a s c w (fun s' c' w' => gv N n way T k (a + 1) s' c' w')
def BV (n A : Nat) (T : Nat → Nat → Nat → Nat → Nat → Nat) (w : Nat → Nat) : Nat × Nat := bst (fun d => hv (n - 1) n 3 T (A - 1) 0 0 d w) n
/-! how a text is read: wrong, place, codes -/
abbrev PR : Type := Bool × Nat × List Int32
def isJ (lv : Nat) (c : Int32) : Bool := match lv with
  | 0 => decide (c = 124)
  | 1 => decide (c = 38)
  | 2 => decide (c = 60) || (decide (c = 61) || decide (c = 62))
  | 3 => decide (c = 43) || decide (c = 45)
  | _ => decide (c = 42) || (decide (c = 47) || decide (c = 37))
def isNm (c : Int32) : Bool := decide (c = 100) || (decide (c = 120) || (decide (c = 99) || (decide (c = 110) || (decide (c = 114) || decide (c = 97)))))
def isDg (c : Int32) : Bool := decide (¬ c < 48) && decide (¬ 57 < c)
def plp (next : Nat → PR) (j : Int32 → Bool) (q : Nat → Int32) : Nat → PR → PR
  | 0, r => r
  | k + 1, (w, p, cs) => if w = true then (w, p, cs) else if j (q p) = true then plp next j q k ((next (p + 1)).1, (next (p + 1)).2.1, cs ++ (next (p + 1)).2.2 ++ [q p]) else (w, p, cs)
def pnm (q : Nat → Int32) : Nat → Nat → Int32 → Nat × Int32
  | 0, p, v => (p, v)
  | k + 1, p, v => if isDg (q p) = true then pnm q k (p + 1) (10 * v + q p - 48) else (p, v)
def pj (q : Nat → Int32) : Nat → Nat → Nat → Nat → PR
  | 0, _, _, p => (true, p, [])
  | f + 1, lv, dp, p =>
    if lv < 5 then plp (fun p' => pj q f (lv + 1) dp p') (isJ lv) q (if lv = 2 then 1 else 1024) (pj q f (lv + 1) dp p)
    else if isDg (q p) = true then (false, (pnm q 4 p 0).1, [1000 + (pnm q 4 p 0).2])
    else if isNm (q p) = true then (false, p + 1, [q p])
    else if 6 ≤ dp then (true, p, [])
    else if q p = 40 then
      (if (pj q f 0 (dp + 1) (p + 1)).1 = true then pj q f 0 (dp + 1) (p + 1)
      else if q (pj q f 0 (dp + 1) (p + 1)).2.1 = 41 then (false, (pj q f 0 (dp + 1) (p + 1)).2.1 + 1, (pj q f 0 (dp + 1) (p + 1)).2.2)
      else (true, (pj q f 0 (dp + 1) (p + 1)).2))
    else if q p = 33 ∨ q p = 45 then ((pj q f 5 (dp + 1) (p + 1)).1, (pj q f 5 (dp + 1) (p + 1)).2.1, (pj q f 5 (dp + 1) (p + 1)).2.2 ++ [if q p = 45 then 126 else q p])
    else (true, p, [])
def pln (q : Nat → Int32) (p : Nat) : PR :=
  if (pj q 64 0 0 p).1 = true then pj q 64 0 0 p
  else if q (pj q 64 0 0 p).2.1 = 63 then ((pj q 64 0 0 ((pj q 64 0 0 p).2.1 + 1)).1, (pj q 64 0 0 ((pj q 64 0 0 p).2.1 + 1)).2.1, (pj q 64 0 0 p).2.2 ++ 63 :: ((pj q 64 0 0 ((pj q 64 0 0 p).2.1 + 1)).2.2 ++ [59]))
  else (false, (pj q 64 0 0 p).2.1, (pj q 64 0 0 p).2.2 ++ [59])
def prd (q : Nat → Int32) : Nat → PR → PR
  | 0, r => r
  | k + 1, (w, p, cs) => if w = true then (w, p, cs) else if q p = 59 then prd q k ((pln q (p + 1)).1, (pln q (p + 1)).2.1, cs ++ (pln q (p + 1)).2.2) else (w, p, cs)
/-- the letter at a place of a text of L letters -/
def lt_ (t : Nat → Int32) (L p : Nat) : Int32 := if p < L then t p else -1
def rd_ (q : Nat → Int32) : PR := prd q 1024 (pln q 0)
/-- a text that is a law, and its codes -/
def Law_ (t : Nat → Int32) (L : Nat) (l3 : Int32) (cod : Nat → Int32) : Prop :=
  (∀ k, k < L → ∃ b, b ≤ 255 ∧ t k = nI b) ∧ (rd_ (lt_ t L)).1 = false ∧ L ≤ (rd_ (lt_ t L)).2.1 ∧ (rd_ (lt_ t L)).2.2.length ≤ 121 ∧ l3 = nI (rd_ (lt_ t L)).2.2.length ∧ ∀ k, k < (rd_ (lt_ t L)).2.2.length → (rd_ (lt_ t L)).2.2[k]? = some (cod k)
/-! THE RELATION -/
def isN (k : Nat) (x : Int32) : Prop := ∃ j, j < k ∧ x = nI j
def opN (o : Nat → Int32) : Nat → Nat
  | 0 => 0
  | a + 1 => if o a < 0 then opN o a else opN o a ||| 2 ^ (o a).toNatClampNeg
def R_st (n : Nat) (σc σm : ab_S) : Prop :=
  σc.1 1 0 3 = nI n ∧ σm.1 0 0 6 = nI n ∧ (∀ d, d < 5 → isN 13 (σc.1 2 0 d) ∧ σm.1 1 0 d = σc.1 2 0 d) ∧ (∀ d, d < 5 → isN 5 (σc.1 3 0 d) ∧ σm.1 7 0 d = σc.1 3 0 d) ∧ (isN 4 (σc.1 1 0 4) ∧ σm.1 1 0 5 = σc.1 1 0 4) ∧ (∃ a, 1 ≤ a ∧ a ≤ 3 ∧ σc.1 1 0 5 = nI a) ∧ σm.1 1 0 6 = σc.1 1 0 5
def EvV (n : Nat) (oC cC : Nat → Int32) (tC chC opC : Int32) (oM cM : Nat → Int32) (tM chM : Int32) : Prop :=
  ∃ t c, t ≤ 3 ∧ c < n ∧ tC = nI t ∧ tM = nI t ∧ chC = nI c ∧ chM = nI c ∧ opC = nI (opN oC t) ∧ ∀ a, a < t → oM a = oC a ∧ cM a = cC a ∧ isN n (cC a) ∧ (oC a = -1 ∨ ∃ d, d < n ∧ oC a = nI d ∧ cC a ≠ nI d ∧ (opN oC a).testBit d = false)
def LedV (eC lM : Nat → Int32) : Prop := eC 0 = lM 2 ∧ eC 1 = lM 0 ∧ eC 2 = lM 1
def R_ev (n : Nat) (σc σm : ab_S) : Prop := EvV n (σc.1 6 0) (σc.1 7 0) (σc.1 5 0 3) (σc.1 5 0 4) (σc.1 5 0 5) (σm.1 5 0) (σm.1 6 0) (σm.1 0 0 9) (σm.1 0 0 8) ∧ LedV (σc.1 8 0) (σm.1 14 0)
def R_im (i n : Nat) (σc σm : ab_S) : Prop :=
  ∃ k, k ≤ i + 1 ∧ σm.1 0 0 7 = nI k ∧ ((σc.1 0 0 3 = 0 ∧ (σm.1 0 0 28 = 0 ∨ (σm.1 0 0 28 = 1 ∧ ∃ k', k' < k ∧ σm.1 0 0 29 = nI k'))) ∨ (σc.1 0 0 3 = 1 ∧ σm.1 0 0 28 = 1 ∧ σm.1 0 0 29 = nI k ∧ EvV n (σc.1 10 0) (σc.1 11 0) (σc.1 9 0 3) (σc.1 9 0 4) (σc.1 9 0 5) (σm.1 15 0) (σm.1 16 0) (σm.1 0 0 31) (σm.1 0 0 30) ∧ LedV (σc.1 12 0) (σm.1 17 0)))
def ChE (n : Nat) (num what bef aft at_ was is_ : Int32) : Prop :=
  was = bef ∧ is_ = aft ∧ ((what = 0 ∧ at_ = num ∧ isN n num ∧ isN 13 bef ∧ isN 13 aft) ∨ (what = 1 ∧ at_ = 5 ∧ isN 4 bef ∧ isN 4 aft) ∨ (what = 2 ∧ at_ = 6 ∧ (∃ a, 1 ≤ a ∧ a ≤ 3 ∧ bef = nI a) ∧ (∃ a, 1 ≤ a ∧ a ≤ 3 ∧ aft = nI a)))
def R_ch (n : Nat) (σc σm : ab_S) : Prop :=
  ∃ d a, d ≤ a ∧ a ≤ 40 ∧ σc.1 13 0 4 = nI d ∧ σc.1 13 0 5 = nI a ∧ σm.1 0 0 5 = nI d ∧ σm.1 0 0 4 = nI a ∧ ∀ k, k < a → ChE n (σc.1 14 0 k) (σc.1 15 0 k) (σc.1 16 0 k) (σc.1 17 0 k) (σm.1 2 0 k) (σm.1 3 0 k) (σm.1 4 0 k)
def R_tp (σc σm : ab_S) : Prop :=
  ∃ L, L ≤ 120 ∧ σc.1 18 0 2 = nI L ∧ σm.1 0 0 14 = nI L ∧ ∀ k, k < L → σm.1 8 0 k = σc.1 19 0 k ∧ ∃ b, b ≤ 255 ∧ σc.1 19 0 k = nI b
def R_lw (n : Nat) (σc σm : ab_S) : Prop :=
  ∀ h, h < 4 → σc.1 23 h 6 = nI n ∧ ((σc.1 23 h 5 = 0 ∧ σm.1 10 0 h = -1) ∨ (σc.1 23 h 5 = 1 ∧ ∃ m, m ≤ 120 ∧ σm.1 10 0 h = nI m ∧ Law_ (fun j => σm.1 9 0 (120 * h + j)) m (σc.1 23 h 3) (σc.1 24 h)))
def seat (a r c d x : Nat) : Nat := (((a * (a + 1) / 2 + r) * 5 + c) * 5 + d) * 5 + x
def R_gv (σc : ab_S) : Prop :=
  ∀ h, h < 4 → σc.1 23 h 5 = 0 ∨ ∀ a r c d x, a < 3 → r ≤ a → c < 5 → d < 5 → x < 5 → σc.1 26 h (seat a r c d x) = 0 ∨ σc.1 26 h (seat a r c d x) = nI (1 + tw σc h a r c d x)
def BestV (n : Nat) (A : Int32) (W : Nat → Int32) (T : Nat → Nat → Nat → Nat → Nat → Nat) (v : Int64) (d : Int32) : Prop :=
  v = lN (BV n A.toNatClampNeg T (fun x => (W x).toNatClampNeg)).1 ∧ d = nI (BV n A.toNatClampNeg T (fun x => (W x).toNatClampNeg)).2
def R_bs (i n : Nat) (σc : ab_S) : Prop :=
  ∃ g, 1 ≤ g ∧ g ≤ i + 1 ∧ σc.1 1 0 6 = nI g ∧ ∀ h, h < 4 → ∃ g', g' ≤ g ∧ σc.1 34 0 h = nI g' ∧ (g' = g → BestV n (σc.1 1 0 5) (σc.1 2 0) (tw σc h) (σc.2 32 0 h) (σc.1 33 0 h))
def R_bd (b : Nat) (σc σm : ab_S) : Prop :=
  b ≤ 50 ∧ σc.1 36 0 2 = nI b ∧ σm.1 0 0 35 = nI b ∧ (∀ k, k < b → isN 8 (σc.1 37 0 k) ∧ σm.1 18 0 k = σc.1 37 0 k) ∧ (∃ r, r ≤ 100 ∧ σc.1 36 0 3 = nI r ∧ σm.1 0 0 38 = nI r) ∧ ∀ j, j < 24 → σm.1 19 0 j = σc.1 38 0 j
def R_sh (b : Nat) (σc σm : ab_S) : Prop :=
  ∀ d, d < 6 → (σc.1 40 0 d = -1 ∧ σm.1 20 0 d = -1) ∨ (∃ k, k < b ∧ σc.1 40 0 d = -2 ∧ σc.1 41 0 d = nI k ∧ σm.1 20 0 d = nI k) ∨ (∃ s m, s ≤ 4 ∧ m ≤ 60 ∧ σc.1 40 0 d = nI s ∧ σm.1 20 0 d = nI (50 + s) ∧ σc.1 41 0 d = nI m ∧ σm.1 21 0 d = nI m ∧ ∀ j, j < 60 → σm.2 22 0 (60 * d + j) = σc.2 43 d j ∧ (s = 0 → ∃ y : Int32, σc.2 43 d j = y.toInt64))
def Rel (i : Nat) (σc σm : ab_S) : Prop :=
  ∃ n b, 2 ≤ n ∧ n ≤ 5 ∧ R_st n σc σm ∧ R_ev n σc σm ∧ R_im i n σc σm ∧ R_ch n σc σm ∧ R_tp σc σm ∧ R_lw n σc σm ∧ R_gv σc ∧ R_bs i n σc ∧ R_bd b σc σm ∧ R_sh b σc σm
