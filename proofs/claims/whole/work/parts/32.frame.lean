/-! PURE, 2: what may change unseen -/
def keepT (r i : Nat) : Bool := if r = 25 then false else if r = 26 then false else if r = 23 then !decide (i = 4) else true
def keepC (r i : Nat) : Bool := if r = 4 then false else if r = 20 then false else if r = 25 then false else if r = 26 then false else if r = 33 then false else if r = 34 then false else if r = 35 then false else if r = 18 then decide (i = 2) else if r = 23 then !decide (i = 4) else if r = 36 then !decide (i = 4) && !decide (i = 5) else true
def keepB (r i : Nat) : Bool := if r = 33 then true else if r = 34 then true else keepC r i
def keepV (r i : Nat) : Bool := if r = 24 then true else if r = 26 then true else if r = 23 then !decide (i = 4) else false
def keepG (r i : Nat) : Bool := if r = 11 then false else if r = 0 then decide (i < 17) || decide (21 < i) else true
def keepM (r i : Nat) : Bool := if r = 11 then false else if r = 0 then (decide (i < 17) || decide (21 < i)) && !decide (i = 25) && !decide (i = 26) && !decide (i = 39) && !decide (i = 40) else true
def mT (σ : ab_S) : ab_S := (fun r k i => if keepT r i = true then σ.1 r k i else 0, σ.2)
def mC (σ : ab_S) : ab_S := (fun r k i => if keepC r i = true then σ.1 r k i else 0, fun r k i => if r = 43 then σ.2 r k i else 0)
def mB (σ : ab_S) : ab_S := (fun r k i => if keepB r i = true then σ.1 r k i else 0, fun r k i => if r = 43 ∨ r = 32 then σ.2 r k i else 0)
def mV (σ : ab_S) : ab_S := (fun r k i => if keepV r i = true then σ.1 r k i else 0, fun _ _ _ => 0)
def mG (σ : ab_S) : ab_S := (fun r k i => if keepG r i = true then σ.1 r k i else 0, σ.2)
def mM (σ : ab_S) : ab_S := (fun r k i => if keepM r i = true then σ.1 r k i else 0, fun r k i => if r = 22 then σ.2 r k i else 0)
theorem keepTB {r i : Nat} (h : keepB r i = true) : keepT r i = true := by
  unfold keepB keepC at h
  unfold keepT
  split at h
  · next e => subst e; rfl
  · split at h
    · next e => subst e; rfl
    · repeat (split at h <;> first | contradiction | skip)
      all_goals (by_cases q : r = 23 <;> simp_all)
theorem keepBC {r i : Nat} (h : keepC r i = true) : keepB r i = true := by
  unfold keepB
  split
  · rfl
  · split
    · rfl
    · exact h
theorem keepGM {r i : Nat} (h : keepM r i = true) : keepG r i = true := by
  unfold keepM at h
  unfold keepG
  split
  · next e => rw [if_pos e] at h; exact h
  · next e =>
    rw [if_neg e] at h
    split
    · next e2 => rw [if_pos e2] at h; simp_all
    · rfl
theorem mB_T {σ σ' : ab_S} (h : mT σ' = mT σ) : mB σ' = mB σ := by
  have h1 : ∀ r k i, keepT r i = true → σ'.1 r k i = σ.1 r k i := fun r k i hk => by
    have := congrFun (congrFun (congrFun (congrArg Prod.fst h) r) k) i
    simpa only [mT, hk, if_true] using this
  have h2' := congrArg Prod.snd h
  have h2 : σ'.2 = σ.2 := h2'
  refine Prod.ext ?_ ?_
  · funext r k i
    show (if keepB r i = true then σ'.1 r k i else 0) = (if keepB r i = true then σ.1 r k i else 0)
    by_cases hb : keepB r i = true
    · rw [if_pos hb, if_pos hb, h1 r k i (keepTB hb)]
    · rw [if_neg hb, if_neg hb]
  · show (fun r k i => if r = 43 ∨ r = 32 then σ'.2 r k i else 0) = _
    rw [h2]
    rfl
theorem mC_B {σ σ' : ab_S} (h : mB σ' = mB σ) : mC σ' = mC σ := by
  have h1 : ∀ r k i, keepB r i = true → σ'.1 r k i = σ.1 r k i := fun r k i hk => by
    have := congrFun (congrFun (congrFun (congrArg Prod.fst h) r) k) i
    simpa only [mB, hk, if_true] using this
  have h2 : ∀ k i, σ'.2 43 k i = σ.2 43 k i := fun k i => congrFun (congrFun (congrFun (congrArg Prod.snd h) 43) k) i
  refine Prod.ext ?_ ?_
  · funext r k i
    show (if keepC r i = true then σ'.1 r k i else 0) = (if keepC r i = true then σ.1 r k i else 0)
    by_cases hb : keepC r i = true
    · rw [if_pos hb, if_pos hb, h1 r k i (keepBC hb)]
    · rw [if_neg hb, if_neg hb]
  · funext r k i
    show (if r = 43 then σ'.2 r k i else 0) = (if r = 43 then σ.2 r k i else 0)
    by_cases hb : r = 43
    · subst hb
      rw [if_pos rfl, if_pos rfl, h2]
    · rw [if_neg hb, if_neg hb]
theorem mM_G {σ σ' : ab_S} (h : mG σ' = mG σ) : mM σ' = mM σ := by
  have h1 : ∀ r k i, keepG r i = true → σ'.1 r k i = σ.1 r k i := fun r k i hk => by
    have := congrFun (congrFun (congrFun (congrArg Prod.fst h) r) k) i
    simpa only [mG, hk, if_true] using this
  have h2' := congrArg Prod.snd h
  have h2 : σ'.2 = σ.2 := h2'
  refine Prod.ext ?_ ?_
  · funext r k i
    show (if keepM r i = true then σ'.1 r k i else 0) = (if keepM r i = true then σ.1 r k i else 0)
    by_cases hb : keepM r i = true
    · rw [if_pos hb, if_pos hb, h1 r k i (keepGM hb)]
    · rw [if_neg hb, if_neg hb]
  · show (fun r k i => if r = 22 then σ'.2 r k i else 0) = _
    rw [h2]
    rfl
theorem mT_get {σ σ' : ab_S} (h : mT σ' = mT σ) {r k i : Nat} (hk : keepT r i = true) : σ'.1 r k i = σ.1 r k i := by
  have := congrFun (congrFun (congrFun (congrArg Prod.fst h) r) k) i
  simpa only [mT, hk, if_true] using this
theorem mG_get {σ σ' : ab_S} (h : mG σ' = mG σ) {r k i : Nat} (hk : keepG r i = true) : σ'.1 r k i = σ.1 r k i := by
  have := congrFun (congrFun (congrFun (congrArg Prod.fst h) r) k) i
  simpa only [mG, hk, if_true] using this
theorem mB_get {σ σ' : ab_S} (h : mB σ' = mB σ) {r k i : Nat} (hk : keepB r i = true) : σ'.1 r k i = σ.1 r k i := by
  have := congrFun (congrFun (congrFun (congrArg Prod.fst h) r) k) i
  simpa only [mB, hk, if_true] using this
theorem mC_get {σ σ' : ab_S} (h : mC σ' = mC σ) {r k i : Nat} (hk : keepC r i = true) : σ'.1 r k i = σ.1 r k i := by
  have := congrFun (congrFun (congrFun (congrArg Prod.fst h) r) k) i
  simpa only [mC, hk, if_true] using this
theorem mM_get {σ σ' : ab_S} (h : mM σ' = mM σ) {r k i : Nat} (hk : keepM r i = true) : σ'.1 r k i = σ.1 r k i := by
  have := congrFun (congrFun (congrFun (congrArg Prod.fst h) r) k) i
  simpa only [mM, hk, if_true] using this
theorem mT_si {σ : ab_S} {r k j : Nat} {v : Int32} (h : keepT r j = false) : mT (ab_si σ r k j v) = mT σ := by
  refine Prod.ext ?_ rfl
  funext a b c
  show (if keepT a c = true then (if a = r ∧ b = k ∧ c = j then v else σ.1 a b c) else 0) = (if keepT a c = true then σ.1 a b c else 0)
  by_cases hb : keepT a c = true
  · rw [if_pos hb, if_pos hb, if_neg (fun e => by rw [e.1, e.2.2, h] at hb; cases hb)]
  · rw [if_neg hb, if_neg hb]
theorem mG_si {σ : ab_S} {r k j : Nat} {v : Int32} (h : keepG r j = false) : mG (ab_si σ r k j v) = mG σ := by
  refine Prod.ext ?_ rfl
  funext a b c
  show (if keepG a c = true then (if a = r ∧ b = k ∧ c = j then v else σ.1 a b c) else 0) = (if keepG a c = true then σ.1 a b c else 0)
  by_cases hb : keepG a c = true
  · rw [if_pos hb, if_pos hb, if_neg (fun e => by rw [e.1, e.2.2, h] at hb; cases hb)]
  · rw [if_neg hb, if_neg hb]
theorem mM_si {σ : ab_S} {r k j : Nat} {v : Int32} (h : keepM r j = false) : mM (ab_si σ r k j v) = mM σ := by
  refine Prod.ext ?_ rfl
  funext a b c
  show (if keepM a c = true then (if a = r ∧ b = k ∧ c = j then v else σ.1 a b c) else 0) = (if keepM a c = true then σ.1 a b c else 0)
  by_cases hb : keepM a c = true
  · rw [if_pos hb, if_pos hb, if_neg (fun e => by rw [e.1, e.2.2, h] at hb; cases hb)]
  · rw [if_neg hb, if_neg hb]
theorem mB_si {σ : ab_S} {r k j : Nat} {v : Int32} (h : keepB r j = false) : mB (ab_si σ r k j v) = mB σ := by
  refine Prod.ext ?_ rfl
  funext a b c
  show (if keepB a c = true then (if a = r ∧ b = k ∧ c = j then v else σ.1 a b c) else 0) = (if keepB a c = true then σ.1 a b c else 0)
  by_cases hb : keepB a c = true
  · rw [if_pos hb, if_pos hb, if_neg (fun e => by rw [e.1, e.2.2, h] at hb; cases hb)]
  · rw [if_neg hb, if_neg hb]
theorem mC_si {σ : ab_S} {r k j : Nat} {v : Int32} (h : keepC r j = false) : mC (ab_si σ r k j v) = mC σ := by
  refine Prod.ext ?_ rfl
  funext a b c
  show (if keepC a c = true then (if a = r ∧ b = k ∧ c = j then v else σ.1 a b c) else 0) = (if keepC a c = true then σ.1 a b c else 0)
  by_cases hb : keepC a c = true
  · rw [if_pos hb, if_pos hb, if_neg (fun e => by rw [e.1, e.2.2, h] at hb; cases hb)]
  · rw [if_neg hb, if_neg hb]
theorem mB_sl {σ : ab_S} {r k j : Nat} {v : Int64} (h : r ≠ 43) (h2 : r ≠ 32) : mB (ab_sl σ r k j v) = mB σ := by
  refine Prod.ext rfl ?_
  funext a b c
  show (if a = 43 ∨ a = 32 then (if a = r ∧ b = k ∧ c = j then v else σ.2 a b c) else 0) = (if a = 43 ∨ a = 32 then σ.2 a b c else 0)
  by_cases hb : a = 43 ∨ a = 32
  · rw [if_pos hb, if_pos hb, if_neg (fun e => by rw [e.1] at hb; omega)]
  · rw [if_neg hb, if_neg hb]
theorem mC_sl {σ : ab_S} {r k j : Nat} {v : Int64} (h : r ≠ 43) : mC (ab_sl σ r k j v) = mC σ := by
  refine Prod.ext rfl ?_
  funext a b c
  show (if a = 43 then (if a = r ∧ b = k ∧ c = j then v else σ.2 a b c) else 0) = (if a = 43 then σ.2 a b c else 0)
  by_cases hb : a = 43
  · rw [if_pos hb, if_pos hb, if_neg (fun e => by rw [e.1] at hb; omega)]
  · rw [if_neg hb, if_neg hb]
theorem mM_sl {σ : ab_S} {r k j : Nat} {v : Int64} (h : r ≠ 22) : mM (ab_sl σ r k j v) = mM σ := by
  refine Prod.ext rfl ?_
  funext a b c
  show (if a = 22 then (if a = r ∧ b = k ∧ c = j then v else σ.2 a b c) else 0) = (if a = 22 then σ.2 a b c else 0)
  by_cases hb : a = 22
  · rw [if_pos hb, if_pos hb, if_neg (fun e => by rw [e.1] at hb; omega)]
  · rw [if_neg hb, if_neg hb]
section
variable {i n b : Nat} {σc σm σc' σm' : ab_S}
theorem R_st_fr (h : R_st n σc σm) (e1 : mC σc' = mC σc) (e2 : mM σm' = mM σm) : R_st n σc' σm' := by
  show R_st n (mC σc') (mM σm')
  rw [e1, e2]
  exact h
theorem R_ev_fr (h : R_ev n σc σm) (e1 : mC σc' = mC σc) (e2 : mM σm' = mM σm) : R_ev n σc' σm' := by
  show R_ev n (mC σc') (mM σm')
  rw [e1, e2]
  exact h
theorem R_im_fr (h : R_im i n σc σm) (e1 : mC σc' = mC σc) (e2 : mM σm' = mM σm) : R_im i n σc' σm' := by
  show R_im i n (mC σc') (mM σm')
  rw [e1, e2]
  exact h
theorem R_ch_fr (h : R_ch n σc σm) (e1 : mC σc' = mC σc) (e2 : mM σm' = mM σm) : R_ch n σc' σm' := by
  show R_ch n (mC σc') (mM σm')
  rw [e1, e2]
  exact h
theorem R_tp_fr (h : R_tp σc σm) (e1 : mC σc' = mC σc) (e2 : mM σm' = mM σm) : R_tp σc' σm' := by
  show R_tp (mC σc') (mM σm')
  rw [e1, e2]
  exact h
theorem R_lw_fr (h : R_lw n σc σm) (e1 : mC σc' = mC σc) (e2 : mM σm' = mM σm) : R_lw n σc' σm' := by
  show R_lw n (mC σc') (mM σm')
  rw [e1, e2]
  exact h
theorem R_bd_fr (h : R_bd b σc σm) (e1 : mC σc' = mC σc) (e2 : mM σm' = mM σm) : R_bd b σc' σm' := by
  show R_bd b (mC σc') (mM σm')
  rw [e1, e2]
  exact h
theorem R_sh_fr (h : R_sh b σc σm) (e1 : mC σc' = mC σc) (e2 : mM σm' = mM σm) : R_sh b σc' σm' := by
  show R_sh b (mC σc') (mM σm')
  rw [e1, e2]
  exact h
theorem R_bs_fr (h : R_bs i n σc) (e1 : mB σc' = mB σc) : R_bs i n σc' := by
  show R_bs i n (mB σc')
  rw [e1]
  exact h
theorem R_gv_fr (h : R_gv σc) (e1 : mV σc' = mV σc) : R_gv σc' := by
  show R_gv (mV σc')
  rw [e1]
  exact h
theorem R_im_mono (h : R_im i n σc σm) : R_im (i + 6) n σc σm := by
  obtain ⟨k, h1, h2⟩ := h
  exact ⟨k, by omega, h2⟩
theorem R_bs_mono (h : R_bs i n σc) : R_bs (i + 6) n σc := by
  obtain ⟨g, h0, h1, h2⟩ := h
  exact ⟨g, h0, by omega, h2⟩
theorem Rel_mono (h : Rel i σc σm) : Rel (i + 6) σc σm := by
  obtain ⟨n, b, h1, h2, h3, h4, h5, h6, h7, h8, h9, h10, h11, h12⟩ := h
  exact ⟨n, b, h1, h2, h3, h4, R_im_mono h5, h6, h7, h8, h9, R_bs_mono h10, h11, h12⟩
theorem Rel_fr (h : Rel i σc σm) (e1 : mB σc' = mB σc) (e2 : mM σm' = mM σm) (hg : R_gv σc') : Rel (i + 6) σc' σm' := by
  obtain ⟨n, b, h1, h2, h3, h4, h5, h6, h7, h8, h9, h10, h11, h12⟩ := h
  have e := mC_B e1
  exact ⟨n, b, h1, h2, R_st_fr h3 e e2, R_ev_fr h4 e e2, R_im_mono (R_im_fr h5 e e2), R_ch_fr h6 e e2, R_tp_fr h7 e e2, R_lw_fr h8 e e2, hg, R_bs_mono (R_bs_fr h10 e1), R_bd_fr h11 e e2, R_sh_fr h12 e e2⟩
end
