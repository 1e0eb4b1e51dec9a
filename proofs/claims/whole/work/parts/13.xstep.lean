/-! the class: those that meet a condition, a STEP's row of the table, a measure's -/
variable {f_nodeCount f_innermost f_draftLength f_rulesGiven f_wrongToken f_wantedCount f_inCondition f_depth f_cursor f_outcome f_outputCount f_stepsTaken : Int32} {a_names a_values a_parents a_kinds a_operands a_priorities a_givenAt a_wanted a_axes a_passing a_ends a_openers a_table a_results a_matched a_listLeft a_listNode a_listPosition a_listSize a_listBody a_listReturn a_outputs : Nat → Int32}
theorem ls_len1 (M : Int32) : ∀ k, ((List.range k).filter (bt M)).length = nu_cnt M k
  | 0 => rfl
  | k + 1 => by
    rw [List.range_succ, List.filter_append, List.length_append, ls_len1 M k, nu_cnt]
    cases h : bt M k
    · rw [List.filter_cons_of_neg (by rw [h]; decide), if_neg (by decide)]; rfl
    · rw [List.filter_cons_of_pos h, if_pos rfl]; rfl
theorem ls_len (back : Bool) (M : Int32) : (ls_of back M).length = nu_cnt M 24 := by
  rw [← ls_len1 M 24]
  unfold ls_of ls_T
  cases back
  · rfl
  · simp only [if_true, List.filter_reverse, List.length_reverse]
theorem xw_those_l {post : Int32 → SX → Prop} {K : Nat → Nat} {len b c : Nat} {M : Int32} {back : Bool} {x3 : Int32} (h3 : x3 = if back = true then 1 else 0) (W : gm_W K len) (hb : b + 32 ≤ 224) (hk : xs_k a_kinds b K) (hc : c < len) (k14 : K c ≤ 14) (he : ∀ x, c ≤ x → x < gm_e K c → a_ends (b + x) = nI (b + gm_e K x))
    {G : Nat → Nat → Bool} (hG : G = fun m p => decide (nu_n K (fun x => a_operands (b + x)) a_values (fun x a => a_table ((b + x) * 24 + a)) m (nI p) (nI (ls_of back M).length) c ≠ 0))
    (hp : ∀ r res, (∀ i, i < 32 → (bt r i = true ↔ i ∈ ls_f G 0 (ls_of back M))) → post r (f_nodeCount, f_innermost, f_draftLength, f_rulesGiven, f_wrongToken, f_wantedCount, f_inCondition, f_depth, f_cursor, f_outcome, f_outputCount, f_stepsTaken, a_names, a_values, a_parents, a_kinds, a_operands, a_priorities, a_givenAt, a_wanted, a_axes, a_passing, a_ends, a_openers, a_table, res, a_matched, a_listLeft, a_listNode, a_listPosition, a_listSize, a_listBody, a_listReturn, a_outputs)) :
    ∀ d t n p kept res, t + d = 24 → d < n → (∀ i, i < 32 → ((bt kept i = true ∨ i ∈ ls_f G p (((ls_T back 24).drop t).filter (bt M))) ↔ i ∈ ls_f G 0 (ls_of back M))) →
      wX_thoseMeeting_16 post (nI (b + c)) M x3 (nI (ls_of back M).length) n (nI p) kept (nI t) f_nodeCount f_innermost f_draftLength f_rulesGiven f_wrongToken f_wantedCount f_inCondition f_depth f_cursor f_outcome f_outputCount f_stepsTaken a_names a_values a_parents a_kinds a_operands a_priorities a_givenAt a_wanted a_axes a_passing a_ends a_openers a_table res a_matched a_listLeft a_listNode a_listPosition a_listSize a_listBody a_listReturn a_outputs := by
  intro d
  induction d with
  | zero =>
    intro t n p kept res ht hn h
    obtain ⟨n, rfl⟩ : ∃ k, n = k + 1 := ⟨n - 1, by omega⟩
    have e : t = 24 := by omega
    subst e
    have e0 : (ls_T back 24).drop 24 = [] := by cases back <;> decide
    refine br_t (by decide) (hp kept res fun i hi => ?_)
    rw [← h i hi, e0]
    exact ⟨Or.inl, fun z => z.elim id (fun y => nomatch y)⟩
  | succ d ih =>
    intro t n p kept res ht hn h
    obtain ⟨n, rfl⟩ : ∃ k, n = k + 1 := ⟨n - 1, by omega⟩
    have dr := ls_T24 back t (by omega)
    have body : ∀ m, m < 24 → (ls_T back 24).drop t = m :: (ls_T back 24).drop (t + 1) → wX_thoseMeeting_37 post (wX_thoseMeeting_16 post (nI (b + c)) M x3 (nI (ls_of back M).length) n) (nI (b + c)) M x3 (nI (ls_of back M).length) (nI p) kept (nI t) (nI m) f_nodeCount f_innermost f_draftLength f_rulesGiven f_wrongToken f_wantedCount f_inCondition f_depth f_cursor f_outcome f_outputCount f_stepsTaken a_names a_values a_parents a_kinds a_operands a_priorities a_givenAt a_wanted a_axes a_passing a_ends a_openers a_table res a_matched a_listLeft a_listNode a_listPosition a_listSize a_listBody a_listReturn a_outputs := by
      intro m hm dr
      cases hbm : bt M m
      · refine br_t (ms_f (by omega) hbm) (nm_r (nI_1 t) (ih (t + 1) n p kept res (by omega) (by omega) fun i hi => ?_))
        have := h i hi
        rw [dr, List.filter_cons_of_neg (by rw [hbm]; decide)] at this
        exact this
      · refine br_f (ms_t (by omega) hbm) (nm_r (nI_1 p) (xw_numberAt W hb hk hc k14 he hm fun res' => ?_))
        have hh : ∀ i, i < 32 → ((bt kept i = true ∨ i ∈ (if G m (p + 1) = true then m :: ls_f G (p + 1) (((ls_T back 24).drop (t + 1)).filter (bt M)) else ls_f G (p + 1) (((ls_T back 24).drop (t + 1)).filter (bt M)))) ↔ i ∈ ls_f G 0 (ls_of back M)) := fun i hi => by
          have := h i hi
          rw [dr, List.filter_cons_of_pos hbm, ls_f] at this
          exact this
        by_cases hz : nu_n K (fun x => a_operands (b + x)) a_values (fun x a => a_table ((b + x) * 24 + a)) m (nI (p + 1)) (nI (ls_of back M).length) c = 0
        · refine br_t hz (nm_r (nI_1 t) (ih (t + 1) n (p + 1) kept res' (by omega) (by omega) fun i hi => ?_))
          have g : ¬ G m (p + 1) = true := by rw [hG]; simp [hz]
          have := hh i hi
          rw [if_neg g] at this
          exact this
        · refine br_f hz (nm_e (nm_r (nI_1 t) (ih (t + 1) n (p + 1) _ res' (by omega) (by omega) fun i hi => ?_)))
          have g : G m (p + 1) = true := by rw [hG]; simp [hz]
          have := hh i hi
          rw [if_pos g] at this
          rw [← this, ms_set kept (by omega) hi, Bool.or_eq_true, decide_eq_true_eq, List.mem_cons]
          constructor
          · rintro ((a | a) | a)
            · exact Or.inl a
            · exact Or.inr (Or.inl a)
            · exact Or.inr (Or.inr a)
          · rintro (a | a | a)
            · exact Or.inl (Or.inl a)
            · exact Or.inl (Or.inr a)
            · exact Or.inr a
    refine br_f (nI_ge (b := 24) (by omega) (by decide)) ?_
    cases back
    · refine br_t (by rw [h3]; decide) (body t (by omega) dr)
    · refine br_f (by rw [h3]; decide) ?_
      have e23 : (23 : Int32) - nI t = nI (23 - t) := pk_sub (a := 23) (by omega)
      rw [e23]
      exact body (23 - t) (by omega) dr
theorem xw_those {post : Int32 → SX → Prop} {K : Nat → Nat} {len b c : Nat} {M : Int32} {back : Bool} {x3 : Int32} (h3 : x3 = if back = true then 1 else 0) (W : gm_W K len) (hb : b + 32 ≤ 224) (hk : xs_k a_kinds b K) (hc : c < len) (k14 : K c ≤ 14) (he : ∀ x, c ≤ x → x < gm_e K c → a_ends (b + x) = nI (b + gm_e K x))
    (hp : ∀ r res, (∀ i, i < 32 → (bt r i = true ↔ i ∈ ls_f (fun m p => decide (nu_n K (fun x => a_operands (b + x)) a_values (fun x a => a_table ((b + x) * 24 + a)) m (nI p) (nI (ls_of back M).length) c ≠ 0)) 0 (ls_of back M))) → post r (f_nodeCount, f_innermost, f_draftLength, f_rulesGiven, f_wrongToken, f_wantedCount, f_inCondition, f_depth, f_cursor, f_outcome, f_outputCount, f_stepsTaken, a_names, a_values, a_parents, a_kinds, a_operands, a_priorities, a_givenAt, a_wanted, a_axes, a_passing, a_ends, a_openers, a_table, res, a_matched, a_listLeft, a_listNode, a_listPosition, a_listSize, a_listBody, a_listReturn, a_outputs)) :
    wpX_thoseMeeting post (f_nodeCount, f_innermost, f_draftLength, f_rulesGiven, f_wrongToken, f_wantedCount, f_inCondition, f_depth, f_cursor, f_outcome, f_outputCount, f_stepsTaken, a_names, a_values, a_parents, a_kinds, a_operands, a_priorities, a_givenAt, a_wanted, a_axes, a_passing, a_ends, a_openers, a_table, a_results, a_matched, a_listLeft, a_listNode, a_listPosition, a_listSize, a_listBody, a_listReturn, a_outputs) (nI (b + c)) M x3 := by
  refine xw_nodesIn ?_
  rw [← ls_len back M]
  refine ⟨25, xw_those_l h3 W hb hk hc k14 he rfl hp 24 0 25 0 0 a_results rfl (by omega) fun i hi => ?_⟩
  rw [b_0]
  exact ⟨fun z => z.elim (fun y => nomatch y) id, Or.inr⟩
/-- what the row of a STEP holds for the node a -/
def xs_R (K : Nat → Nat) (O V P N : Nat → Int32) (n : Nat) (tb : Nat → Nat → Int32) (q c a i : Nat) : Prop :=
  (K q = 15 ∧ ∃ m, m ∈ nu_L K O V P N n tb c a ∧ bt (tb q m) i = true) ∨ (K q ≠ 15 ∧ i ∈ nu_L K O V P N n tb c a)
theorem xw_cond {post : SX → Prop} {J : Int32 → Int32 → Int32 → Int32 → Int32 → Int32 → Int32 → Int32 → Int32 → Int32 → Int32 → Int32 → Int32 → (Nat → Int32) → (Nat → Int32) → (Nat → Int32) → (Nat → Int32) → (Nat → Int32) → (Nat → Int32) → (Nat → Int32) → (Nat → Int32) → (Nat → Int32) → (Nat → Int32) → (Nat → Int32) → (Nat → Int32) → (Nat → Int32) → (Nat → Int32) → (Nat → Int32) → (Nat → Int32) → (Nat → Int32) → (Nat → Int32) → (Nat → Int32) → (Nat → Int32) → (Nat → Int32) → (Nat → Int32) → Prop} {K : Nat → Nat} {len b c q : Nat} {back : Bool} {x1 x2 x3 x4 x5 : Int32} (h4 : x4 = if back = true then 1 else 0) (W : gm_W K len) (hb : b + 32 ≤ 224) (hk : xs_k a_kinds b K) (he : ∀ x, c < x → x < len → a_ends (b + x) = nI (b + gm_e K x)) (hq : q ≤ len) {Lf : List Nat}
    (hp : ∀ M res, ls_of back M = Lf → (∀ i, i < 32 → bt M i = true → i < 24) → wX_tabulateStep_138 post J x1 x2 x3 x4 x5 M (nI (b + q)) f_nodeCount f_innermost f_draftLength f_rulesGiven f_wrongToken f_wantedCount f_inCondition f_depth f_cursor f_outcome f_outputCount f_stepsTaken a_names a_values a_parents a_kinds a_operands a_priorities a_givenAt a_wanted a_axes a_passing a_ends a_openers a_table res a_matched a_listLeft a_listNode a_listPosition a_listSize a_listBody a_listReturn a_outputs) :
    ∀ f j t n g M res, c < j → gm_cd K len f j q → t + (q - j) ≤ 31 → q - j < n → q ≤ j + g → nu_cd K (fun x => a_operands (b + x)) a_values (fun x a => a_table ((b + x) * 24 + a)) g j (ls_of back M) = Lf → (∀ i, i < 32 → bt M i = true → i < 24) → wX_tabulateStep_90 post J x1 x2 x3 x4 x5 n M (nI (b + j)) (nI t) f_nodeCount f_innermost f_draftLength f_rulesGiven f_wrongToken f_wantedCount f_inCondition f_depth f_cursor f_outcome f_outputCount f_stepsTaken a_names a_values a_parents a_kinds a_operands a_priorities a_givenAt a_wanted a_axes a_passing a_ends a_openers a_table res a_matched a_listLeft a_listNode a_listPosition a_listSize a_listBody a_listReturn a_outputs := by
  have hl := W.1
  have stop : ∀ j t n g M res, j = q → K j ≠ 16 → t ≤ 31 → nu_cd K (fun x => a_operands (b + x)) a_values (fun x a => a_table ((b + x) * 24 + a)) g j (ls_of back M) = Lf → (∀ i, i < 32 → bt M i = true → i < 24) → wX_tabulateStep_90 post J x1 x2 x3 x4 x5 (n + 1) M (nI (b + j)) (nI t) f_nodeCount f_innermost f_draftLength f_rulesGiven f_wrongToken f_wantedCount f_inCondition f_depth f_cursor f_outcome f_outputCount f_stepsTaken a_names a_values a_parents a_kinds a_operands a_priorities a_givenAt a_wanted a_axes a_passing a_ends a_openers a_table res a_matched a_listLeft a_listNode a_listPosition a_listSize a_listBody a_listReturn a_outputs := by
    intro j t n g M res e h16 ht hL hM
    subst e
    have e2 : ls_of back M = Lf := by
      rw [← hL]
      cases g with
      | zero => rfl
      | succ g => rw [nu_cd, if_neg h16]
    refine br_f (nI_ge (b := 32) (by omega) (by decide)) ⟨vp_in_nI (by omega) (by omega), ?_⟩
    rw [nI_clamp (by omega), hk j (by omega)]
    refine br_f (fun z => h16 ?_) (hp M res e2 hM)
    have l27 : K j < 2 ^ 31 := by
      rcases Nat.lt_or_ge j len with y | y
      · have := (W.2.2 j y).2.2.2.2.2.2.2.2.2.1; omega
      · have := W.2.1 j y; omega
    exact (nI_eq (b := 16) l27 (by omega)).mp z
  intro f
  induction f with
  | zero =>
    intro j t n g M res hj C ht hn hg hL hM
    obtain ⟨n, rfl⟩ : ∃ k, n = k + 1 := ⟨n - 1, by omega⟩
    exact stop j t n g M res C.1 C.2 (by omega) hL hM
  | succ f ih =>
    intro j t n g M res hj C ht hn hg hL hM
    obtain ⟨n, rfl⟩ : ∃ k, n = k + 1 := ⟨n - 1, by omega⟩
    rcases C with C | ⟨k16, e1, e2, e3, C⟩
    · exact stop j t n g M res C.1 C.2 (by omega) hL hM
    · have hjl : j < len := by omega
      obtain ⟨o1, o2, o3, o4, o5⟩ := (W.2.2 j hjl).2.2.2.2.2.2.2.2.1 k16
      obtain ⟨g, rfl⟩ : ∃ k, g = k + 1 := ⟨g - 1, by omega⟩
      refine br_f (nI_ge (b := 32) (by omega) (by decide)) ⟨vp_in_nI (by omega) (by omega), ?_⟩
      rw [nI_clamp (by omega), hk j (by omega), k16]
      refine br_t (by decide) ?_
      rw [nI_1 (b + j), Nat.add_assoc]
      have hj1 : j + 1 < len := by omega
      refine xw_those h4 W hb hk hj1 o1 (fun x x1 x2 => he x (by omega) (by have := (W.2.2 (j + 1) hj1).2.1; omega)) fun r res' hr => ?_
      refine ⟨vp_in_nI (by omega) (by omega), nm_r (e' := nI (b + gm_e K j)) (he j hj hjl) (nm_r (nI_1 t) (ih (gm_e K j) (t + 1) n g r res' (by omega) C (by omega) (by omega) (by omega) ?_ fun i hi z => (ls_ofm.mp (ls_fm ((hr i hi).mp z))).1))⟩
      rw [ls_next hr, ← hL, nu_cd, if_pos k16]
