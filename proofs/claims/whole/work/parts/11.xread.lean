/-! the class: counting, summing, the first; numbers -/
variable {f_nodeCount f_innermost f_draftLength f_rulesGiven f_wrongToken f_wantedCount f_inCondition f_depth f_cursor f_outcome f_outputCount f_stepsTaken : Int32} {a_names a_values a_parents a_kinds a_operands a_priorities a_givenAt a_wanted a_axes a_passing a_ends a_openers a_table a_results a_matched a_listLeft a_listNode a_listPosition a_listSize a_listBody a_listReturn a_outputs : Nat → Int32}
theorem xw_24 : (24 : Int32) = nI 24 := rfl
theorem xw_nodesIn_l {post : Int32 → Prop} {x : Int32} (hp : post (nI (nu_cnt x 24))) : ∀ d i n, i + d = 24 → d < n → wX_nodesIn_4 post x f_nodeCount f_innermost f_draftLength f_rulesGiven f_wrongToken f_wantedCount f_inCondition f_depth f_cursor f_outcome f_outputCount f_stepsTaken a_names a_values a_parents a_kinds a_operands a_priorities a_givenAt a_wanted a_axes a_passing a_ends a_openers a_table a_results a_matched a_listLeft a_listNode a_listPosition a_listSize a_listBody a_listReturn a_outputs n (nI (nu_cnt x i)) (nI i) := by
  intro d
  induction d with
  | zero =>
    intro i n hi hn
    obtain ⟨n, rfl⟩ : ∃ k, n = k + 1 := ⟨n - 1, by omega⟩
    have e : i = 24 := by omega
    subst e
    exact br_t (by decide) hp
  | succ d ih =>
    intro i n hi hn
    obtain ⟨n, rfl⟩ : ∃ k, n = k + 1 := ⟨n - 1, by omega⟩
    refine br_f (nI_ge (b := 24) (by omega) (by decide)) (nm_r (e' := nI (nu_cnt x (i + 1))) ?_ (nm_r (nI_1 i) (ih (i + 1) n (by omega) (by omega))))
    rw [ms_tst x (by omega), nu_cnt]
    by_cases h : bt x i = true
    · rw [if_pos h, if_pos h, nI_1]
    · rw [if_neg h, if_neg h, Int32.add_zero]; rfl
theorem xw_nodesIn {post : Int32 → Prop} {x : Int32} (hp : post (nI (nu_cnt x 24))) : wpX_nodesIn post (f_nodeCount, f_innermost, f_draftLength, f_rulesGiven, f_wrongToken, f_wantedCount, f_inCondition, f_depth, f_cursor, f_outcome, f_outputCount, f_stepsTaken, a_names, a_values, a_parents, a_kinds, a_operands, a_priorities, a_givenAt, a_wanted, a_axes, a_passing, a_ends, a_openers, a_table, a_results, a_matched, a_listLeft, a_listNode, a_listPosition, a_listSize, a_listBody, a_listReturn, a_outputs) x :=
  ⟨25, xw_nodesIn_l hp 24 0 25 rfl (by omega)⟩
theorem xw_sumOf_l {post : Int32 → Prop} {x : Int32} {nc : Nat} (hc : nc ≤ 24) (hp : post (nu_sum a_values x nc)) : ∀ d i n, i + d = nc → d < n → wX_sumOf_4 post x (nI nc) f_innermost f_draftLength f_rulesGiven f_wrongToken f_wantedCount f_inCondition f_depth f_cursor f_outcome f_outputCount f_stepsTaken a_names a_values a_parents a_kinds a_operands a_priorities a_givenAt a_wanted a_axes a_passing a_ends a_openers a_table a_results a_matched a_listLeft a_listNode a_listPosition a_listSize a_listBody a_listReturn a_outputs n (nu_sum a_values x i) (nI i) := by
  intro d
  induction d with
  | zero =>
    intro i n hi hn
    obtain ⟨n, rfl⟩ : ∃ k, n = k + 1 := ⟨n - 1, by omega⟩
    have e : i = nc := by omega
    subst e
    exact br_t (nI_le (Nat.le_refl _) (by omega)) hp
  | succ d ih =>
    intro i n hi hn
    obtain ⟨n, rfl⟩ : ∃ k, n = k + 1 := ⟨n - 1, by omega⟩
    have I := ih (i + 1) n (by omega) (by omega)
    have e : nu_sum a_values x (i + 1) = nu_sum a_values x i + (if bt x i = true then a_values i else 0) := rfl
    refine br_f (nI_ge (by omega) (by omega)) ?_
    cases h : bt x i
    · rw [h, if_neg (by decide), Int32.add_zero] at e
      rw [e] at I
      exact br_t (ms_f (by omega) h) (nm_r (nI_1 i) I)
    · rw [h, if_pos rfl] at e
      refine br_f (ms_t (by omega) h) ⟨vp_in_nI (by omega) (by omega), nm_r (e' := nu_sum a_values x (i + 1)) ?_ (nm_r (nI_1 i) I)⟩
      rw [nI_clamp (by omega), e]
theorem xw_sumOf {post : Int32 → Prop} {x : Int32} {nc : Nat} (hc : nc ≤ 24) (hp : post (nu_sum a_values x nc)) : wpX_sumOf post (nI nc, f_innermost, f_draftLength, f_rulesGiven, f_wrongToken, f_wantedCount, f_inCondition, f_depth, f_cursor, f_outcome, f_outputCount, f_stepsTaken, a_names, a_values, a_parents, a_kinds, a_operands, a_priorities, a_givenAt, a_wanted, a_axes, a_passing, a_ends, a_openers, a_table, a_results, a_matched, a_listLeft, a_listNode, a_listPosition, a_listSize, a_listBody, a_listReturn, a_outputs) x :=
  ⟨nc + 1, xw_sumOf_l hc hp nc 0 (nc + 1) (by omega) (by omega)⟩
theorem xw_firstOf_l {post : Int32 → Prop} {x : Int32} {f : Nat} (hf : me_low x f) (hp : post (nI f)) : ∀ d i n, i + d = f → d < n → wX_firstOf_2 post x f_nodeCount f_innermost f_draftLength f_rulesGiven f_wrongToken f_wantedCount f_inCondition f_depth f_cursor f_outcome f_outputCount f_stepsTaken a_names a_values a_parents a_kinds a_operands a_priorities a_givenAt a_wanted a_axes a_passing a_ends a_openers a_table a_results a_matched a_listLeft a_listNode a_listPosition a_listSize a_listBody a_listReturn a_outputs n (nI i) := by
  have f24 := hf.1
  intro d
  induction d with
  | zero =>
    intro i n hi hn
    obtain ⟨n, rfl⟩ : ∃ k, n = k + 1 := ⟨n - 1, by omega⟩
    have e : i = f := by omega
    subst e
    exact br_c (fun _ => hp) (fun _ => br_f (ms_t (by omega) hf.2.1) hp)
  | succ d ih =>
    intro i n hi hn
    obtain ⟨n, rfl⟩ : ∃ k, n = k + 1 := ⟨n - 1, by omega⟩
    exact br_f (nI_ge (b := 23) (by omega) (by decide)) (br_t (ms_f (by omega) (hf.2.2 i (by omega))) (nm_r (nI_1 i) (ih (i + 1) n (by omega) (by omega))))
theorem xw_firstOf {post : Int32 → Prop} {x : Int32} {f : Nat} (hf : me_low x f) (hp : post (nI f)) : wpX_firstOf post (f_nodeCount, f_innermost, f_draftLength, f_rulesGiven, f_wrongToken, f_wantedCount, f_inCondition, f_depth, f_cursor, f_outcome, f_outputCount, f_stepsTaken, a_names, a_values, a_parents, a_kinds, a_operands, a_priorities, a_givenAt, a_wanted, a_axes, a_passing, a_ends, a_openers, a_table, a_results, a_matched, a_listLeft, a_listNode, a_listPosition, a_listSize, a_listBody, a_listReturn, a_outputs) x :=
  ⟨f + 1, xw_firstOf_l hf hp f 0 (f + 1) (by omega) (by omega)⟩
theorem xw_ix (c m : Nat) : nI c * 24 + nI m = nI (c * 24 + m) := by
  rw [xw_24, pk_mul, nI_add]
theorem xw_selectedFrom_l {post : Int32 → Prop} {x : Int32} {nc c : Nat} (hc : nc ≤ 24) (hcc : c < 224) (hp : ∀ r, (∀ i, i < 32 → (bt r i = true ↔ ∃ m, m < nc ∧ bt x m = true ∧ bt (a_table (c * 24 + m)) i = true)) → post r) :
    ∀ d i n r, i + d = nc → d < n → (∀ j, j < 32 → (bt r j = true ↔ ∃ m, m < i ∧ bt x m = true ∧ bt (a_table (c * 24 + m)) j = true)) → wX_selectedFrom_5 post (nI c) x (nI nc) f_innermost f_draftLength f_rulesGiven f_wrongToken f_wantedCount f_inCondition f_depth f_cursor f_outcome f_outputCount f_stepsTaken a_names a_values a_parents a_kinds a_operands a_priorities a_givenAt a_wanted a_axes a_passing a_ends a_openers a_table a_results a_matched a_listLeft a_listNode a_listPosition a_listSize a_listBody a_listReturn a_outputs n r (nI i) := by
  intro d
  induction d with
  | zero =>
    intro i n r hi hn hr
    obtain ⟨n, rfl⟩ : ∃ k, n = k + 1 := ⟨n - 1, by omega⟩
    have e : i = nc := by omega
    subst e
    exact br_t (nI_le (Nat.le_refl _) (by omega)) (hp r hr)
  | succ d ih =>
    intro i n r hi hn hr
    obtain ⟨n, rfl⟩ : ∃ k, n = k + 1 := ⟨n - 1, by omega⟩
    refine br_f (nI_ge (by omega) (by omega)) ?_
    cases h : bt x i
    · refine br_t (ms_f (by omega) h) (nm_r (nI_1 i) (ih (i + 1) n r (by omega) (by omega) fun j hj => (hr j hj).trans ⟨fun ⟨m, a, b⟩ => ⟨m, by omega, b⟩, fun ⟨m, a, b, z⟩ => ⟨m, ?_, b, z⟩⟩))
      rcases Nat.lt_or_ge m i with q | q
      · exact q
      · have : m = i := by omega
        rw [this, h] at b
        exact nomatch b
    · have ix := xw_ix c i
      refine br_f (ms_t (by omega) h) ⟨by rw [ix]; exact vp_in_nI (by omega) (by omega), nm_r (e' := r ||| a_table (c * 24 + i)) (by rw [ix, nI_clamp (by omega)]) (nm_r (nI_1 i) (ih (i + 1) n _ (by omega) (by omega) fun j hj => ?_))⟩
      rw [b_or, Bool.or_eq_true, hr j hj]
      constructor
      · rintro (⟨m, a, b⟩ | z)
        · exact ⟨m, by omega, b⟩
        · exact ⟨i, by omega, h, z⟩
      · rintro ⟨m, a, b, z⟩
        rcases Nat.lt_or_ge m i with q | q
        · exact Or.inl ⟨m, q, b, z⟩
        · have : m = i := by omega
          rw [this] at z
          exact Or.inr z
theorem xw_selectedFrom {post : Int32 → Prop} {x : Int32} {nc c : Nat} (hc : nc ≤ 24) (hcc : c < 224) (hp : ∀ r, (∀ i, i < 32 → (bt r i = true ↔ ∃ m, m < nc ∧ bt x m = true ∧ bt (a_table (c * 24 + m)) i = true)) → post r) : wpX_selectedFrom post (nI nc, f_innermost, f_draftLength, f_rulesGiven, f_wrongToken, f_wantedCount, f_inCondition, f_depth, f_cursor, f_outcome, f_outputCount, f_stepsTaken, a_names, a_values, a_parents, a_kinds, a_operands, a_priorities, a_givenAt, a_wanted, a_axes, a_passing, a_ends, a_openers, a_table, a_results, a_matched, a_listLeft, a_listNode, a_listPosition, a_listSize, a_listBody, a_listReturn, a_outputs) (nI c) x :=
  ⟨nc + 1, xw_selectedFrom_l hc hcc hp nc 0 (nc + 1) 0 (by omega) (by omega) fun j hj => ⟨fun z => absurd z (by rw [b_0]; decide), fun ⟨m, a, _⟩ => absurd a (by omega)⟩⟩
