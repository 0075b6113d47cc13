def Rel (σc σm : ab_S) : Prop := σc = σc ∧ σm = σm
theorem pp_doors {σc σm : ab_S} (h : Rel σc σm) (a0 : Int32) : ∃ (r : Int32) (σc1 : ab_S) (σm1 : ab_S), fX9_doors a0 σc = some (r, σc1) ∧ fX10_doors a0 σm = some (r, σm1) ∧ Rel σc1 σm1 := by sorry
theorem pp_weights {σc σm : ab_S} (h : Rel σc σm) (a0 : Int32) (a1 : Int32) (a2 : Int32) : ∃ (r : Int32) (σc1 : ab_S) (σm1 : ab_S), fX9_weights a0 a1 a2 σc = some (r, σc1) ∧ fX10_weights a0 a1 a2 σm = some (r, σm1) ∧ Rel σc1 σm1 := by sorry
theorem pp_mend {σc σm : ab_S} (h : Rel σc σm) (a0 : Int32) (a1 : Int32) (a2 : Int32) : ∃ (r : Int32) (σc1 : ab_S) (σm1 : ab_S), fX9_mend a0 a1 a2 σc = some (r, σc1) ∧ fX10_mend a0 a1 a2 σm = some (r, σm1) ∧ Rel σc1 σm1 := by sorry
theorem pp_of {σc σm : ab_S} (h : Rel σc σm) (a0 : Int32) (a1 : Int32) : ∃ (r : Int32), fX9_of a0 a1 σc = some r ∧ fX10_of a0 a1 σm = some r ∧ Rel σc σm := by sorry
theorem pp_feed {σc σm : ab_S} (h : Rel σc σm) (a0 : Int32) : ∃ (r : Int32) (σc1 : ab_S) (σm1 : ab_S), fX9_feed a0 σc = some (r, σc1) ∧ fX10_feed a0 σm = some (r, σm1) ∧ Rel σc1 σm1 := by sorry
theorem pp_law {σc σm : ab_S} (h : Rel σc σm) (a0 : Int32) : ∃ (r : Int32) (σc1 : ab_S) (σm1 : ab_S), fX9_law a0 σc = some (r, σc1) ∧ fX10_law a0 σm = some (r, σm1) ∧ Rel σc1 σm1 := by sorry
theorem pp_opens {σc σm : ab_S} (h : Rel σc σm) (a0 : Int32) : ∃ (r : Int32) (σc1 : ab_S) (σm1 : ab_S), fX9_opens a0 σc = some (r, σc1) ∧ fX10_opens a0 σm = some (r, σm1) ∧ Rel σc1 σm1 := by sorry
theorem pp_choose {σc σm : ab_S} (h : Rel σc σm) (a0 : Int32) : ∃ (r : Int32) (σc1 : ab_S) (σm1 : ab_S), fX9_choose a0 σc = some (r, σc1) ∧ fX10_choose a0 σm = some (r, σm1) ∧ Rel σc1 σm1 := by sorry
theorem pp_opened {σc σm : ab_S} (h : Rel σc σm) (a0 : Int32) : ∃ (r : Int32) (σc1 : ab_S) (σm1 : ab_S), fX9_opened a0 σc = some (r, σc1) ∧ fX10_opened a0 σm = some (r, σm1) ∧ Rel σc1 σm1 := by sorry
theorem pp_anew {σc σm : ab_S} (h : Rel σc σm) : ∃ (r : Int32) (σc1 : ab_S) (σm1 : ab_S), fX9_anew σc = some (r, σc1) ∧ fX10_anew σm = some (r, σm1) ∧ Rel σc1 σm1 := by sorry
theorem pp_likely {σc σm : ab_S} (h : Rel σc σm) (a0 : Int32) (a1 : Int32) : ∃ (r : Int64) (σc1 : ab_S) (σm1 : ab_S), fX9_likely a0 a1 σc = some (r, σc1) ∧ fX10_likely a0 a1 σm = some (r, σm1) ∧ Rel σc1 σm1 := by sorry
theorem pp_best {σc σm : ab_S} (h : Rel σc σm) : ∃ (r : Int32) (σc1 : ab_S) (σm1 : ab_S), fX9_best σc = some (r, σc1) ∧ fX10_best σm = some (r, σm1) ∧ Rel σc1 σm1 := by sorry
theorem pp_gain {σc σm : ab_S} (h : Rel σc σm) (a0 : Int32) : ∃ (r : Int64) (σc1 : ab_S) (σm1 : ab_S), fX9_gain a0 σc = some (r, σc1) ∧ fX10_gain a0 σm = some (r, σm1) ∧ Rel σc1 σm1 := by sorry
theorem pp_next {σc σm : ab_S} (h : Rel σc σm) (a0 : Int32) (a1 : Int32) : ∃ (r : Int64) (σc1 : ab_S) (σm1 : ab_S), fX9_next a0 a1 σc = some (r, σc1) ∧ fX10_next a0 a1 σm = some (r, σm1) ∧ Rel σc1 σm1 := by sorry
theorem pp_worth {σc σm : ab_S} (h : Rel σc σm) (a0 : Int32) (a1 : Int32) (a2 : Int32) : ∃ (r : Int64) (σc1 : ab_S) (σm1 : ab_S), fX9_worth a0 a1 a2 σc = some (r, σc1) ∧ fX10_worth a0 a1 a2 σm = some (r, σm1) ∧ Rel σc1 σm1 := by sorry
theorem pp_theBest {σc σm : ab_S} (h : Rel σc σm) (a0 : Int32) : ∃ (r : Int64) (σc1 : ab_S) (σm1 : ab_S), fX9_theBest a0 σc = some (r, σc1) ∧ fX10_theBest a0 σm = some (r, σm1) ∧ Rel σc1 σm1 := by sorry
theorem pp_sure {σc σm : ab_S} (h : Rel σc σm) (a0 : Int32) (a1 : Int32) (a2 : Int32) : ∃ (r : Int64) (σc1 : ab_S) (σm1 : ab_S), fX9_sure a0 a1 a2 σc = some (r, σc1) ∧ fX10_sure a0 a1 a2 σm = some (r, σm1) ∧ Rel σc1 σm1 := by sorry
theorem pp_hardest {σc σm : ab_S} (h : Rel σc σm) (a0 : Int32) (a1 : Int32) : ∃ (r : Int64) (σc1 : ab_S) (σm1 : ab_S), fX9_hardest a0 a1 σc = some (r, σc1) ∧ fX10_hardest a0 a1 σm = some (r, σm1) ∧ Rel σc1 σm1 := by sorry
theorem pp_which {σc σm : ab_S} (h : Rel σc σm) (a0 : Int32) (a1 : Int32) (a2 : Int32) : ∃ (r : Int64) (σc1 : ab_S) (σm1 : ab_S), fX9_which a0 a1 a2 σc = some (r, σc1) ∧ fX10_which a0 a1 a2 σm = some (r, σm1) ∧ Rel σc1 σm1 := by sorry
theorem pp_judge {σc σm : ab_S} (h : Rel σc σm) (a0 : Int32) (a1 : Int32) : ∃ (r : Int32) (σc1 : ab_S) (σm1 : ab_S), fX9_judge a0 a1 σc = some (r, σc1) ∧ fX10_judge a0 a1 σm = some (r, σm1) ∧ Rel σc1 σm1 := by sorry
theorem pp_apart {σc σm : ab_S} (h : Rel σc σm) (a0 : Int32) (a1 : Int32) : ∃ (r : Int32) (σc1 : ab_S) (σm1 : ab_S), fX9_apart a0 a1 σc = some (r, σc1) ∧ fX10_apart a0 a1 σm = some (r, σm1) ∧ Rel σc1 σm1 := by sorry
theorem pp_drawn {σc σm : ab_S} (h : Rel σc σm) (a0 : Int32) (a1 : Int32) (a2 : Int32) : ∃ (r : Int32) (σc1 : ab_S) (σm1 : ab_S), fX9_drawn a0 a1 a2 σc = some (r, σc1) ∧ fX10_drawn a0 a1 a2 σm = some (r, σm1) ∧ Rel σc1 σm1 := by sorry
theorem pp_code {σc σm : ab_S} (h : Rel σc σm) (a0 : Int32) (a1 : Int32) : ∃ (r : Int32) (σc1 : ab_S) (σm1 : ab_S), fX9_code a0 a1 σc = some (r, σc1) ∧ fX10_code a0 a1 σm = some (r, σm1) ∧ Rel σc1 σm1 := by sorry
theorem pp_partner {σc σm : ab_S} (h : Rel σc σm) (a0 : Int32) (a1 : Int32) : ∃ (r : Int64) (σc1 : ab_S), fX9_partner a0 a1 σc = some (r, σc1) ∧ fX10_partner a0 a1 σm = some r ∧ Rel σc1 σm := by sorry
theorem pp_win {σc σm : ab_S} (h : Rel σc σm) (a0 : Int32) : ∃ (r : Int32) (σc1 : ab_S) (σm1 : ab_S), fX9_win a0 σc = some (r, σc1) ∧ fX10_win a0 σm = some (r, σm1) ∧ Rel σc1 σm1 := by sorry
theorem pp_led {σc σm : ab_S} (h : Rel σc σm) (a0 : Int32) : ∃ (r : Int32), fX9_led a0 σc = some r ∧ fX10_led a0 σm = some r ∧ Rel σc σm := by sorry
theorem pp_image {σc σm : ab_S} (h : Rel σc σm) : ∃ (r : Int32) (σc1 : ab_S) (σm1 : ab_S), fX9_image σc = some (r, σc1) ∧ fX10_image σm = some (r, σm1) ∧ Rel σc1 σm1 := by sorry
theorem pp_back {σc σm : ab_S} (h : Rel σc σm) : ∃ (r : Int32) (σc1 : ab_S) (σm1 : ab_S), fX9_back σc = some (r, σc1) ∧ fX10_back σm = some (r, σm1) ∧ Rel σc1 σm1 := by sorry
theorem pp_undo {σc σm : ab_S} (h : Rel σc σm) : ∃ (r : Int32) (σc1 : ab_S) (σm1 : ab_S), fX9_undo σc = some (r, σc1) ∧ fX10_undo σm = some (r, σm1) ∧ Rel σc1 σm1 := by sorry
theorem pp_redo {σc σm : ab_S} (h : Rel σc σm) : ∃ (r : Int32) (σc1 : ab_S) (σm1 : ab_S), fX9_redo σc = some (r, σc1) ∧ fX10_redo σm = some (r, σm1) ∧ Rel σc1 σm1 := by sorry
theorem pp_body {σc σm : ab_S} (h : Rel σc σm) (a0 : Int32) : ∃ (r : Int32) (σc1 : ab_S) (σm1 : ab_S), fX9_body a0 σc = some (r, σc1) ∧ fX10_body a0 σm = some (r, σm1) ∧ Rel σc1 σm1 := by sorry
theorem pp_act {σc σm : ab_S} (h : Rel σc σm) (a0 : Int32) (a1 : Int32) (a2 : Int32) : ∃ (r : Int32) (σc1 : ab_S) (σm1 : ab_S), fX9_act a0 a1 a2 σc = some (r, σc1) ∧ fX10_act a0 a1 a2 σm = some (r, σm1) ∧ Rel σc1 σm1 := by sorry
theorem pp_trace {σc σm : ab_S} (h : Rel σc σm) (a0 : Int32) : ∃ (r : Int32), fX9_trace a0 σc = some r ∧ fX10_trace a0 σm = some r ∧ Rel σc σm := by sorry
theorem pp_keep {σc σm : ab_S} (h : Rel σc σm) (a0 : Int32) (a1 : Int32) : ∃ (r : Int32) (σc1 : ab_S) (σm1 : ab_S), fX9_keep a0 a1 σc = some (r, σc1) ∧ fX10_keep a0 a1 σm = some (r, σm1) ∧ Rel σc1 σm1 := by sorry
theorem pp_row {σc σm : ab_S} (h : Rel σc σm) (a0 : Int32) (a1 : Int32) (a2 : Int32) : ∃ (r : Int32) (σc1 : ab_S) (σm1 : ab_S), fX9_row a0 a1 a2 σc = some (r, σc1) ∧ fX10_row a0 a1 a2 σm = some (r, σm1) ∧ Rel σc1 σm1 := by sorry
theorem pp_put {σc σm : ab_S} (h : Rel σc σm) (a0 : Int32) (a1 : Int32) (a2 : Int64) : ∃ (r : Int32) (σc1 : ab_S) (σm1 : ab_S), fX9_put a0 a1 a2 σc = some (r, σc1) ∧ fX10_put a0 a1 a2 σm = some (r, σm1) ∧ Rel σc1 σm1 := by sorry
theorem pp_element {σc σm : ab_S} (h : Rel σc σm) (a0 : Int32) (a1 : Int32) : ∃ (r : Int64), fX9_element a0 a1 σc = some r ∧ fX10_element a0 a1 σm = some r ∧ Rel σc σm := by sorry
theorem pp_shift {σc σm : ab_S} (h : Rel σc σm) (a0 : Int32) (a1 : Int32) (a2 : Int32) (a3 : Int32) (a4 : Int32) : ∃ (r : Int32) (σc1 : ab_S) (σm1 : ab_S), fX9_shift a0 a1 a2 a3 a4 σc = some (r, σc1) ∧ fX10_shift a0 a1 a2 a3 a4 σm = some (r, σm1) ∧ Rel σc1 σm1 := by sorry
theorem pp_taken {σc σm : ab_S} (h : Rel σc σm) (a0 : Int32) (a1 : Int32) : ∃ (r : Int32), fX9_taken a0 a1 σc = some r ∧ fX10_taken a0 a1 σm = some r ∧ Rel σc σm := by sorry
theorem pp_count {σc σm : ab_S} (h : Rel σc σm) (a0 : Int32) : ∃ (r : Int32), fX9_count a0 σc = some r ∧ fX10_count a0 σm = some r ∧ Rel σc σm := by sorry
