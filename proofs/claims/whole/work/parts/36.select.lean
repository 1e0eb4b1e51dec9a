/-! select and number -/
theorem gm_run_le (K : Nat → Nat) : ∀ d i s p, gm_run K d i s = some p → p ≤ i + d := by
  intro d
  induction d with
  | zero =>
    intro i s p h
    rw [gm_run] at h
    split at h
    · exact nomatch h
    · cases h; omega
  | succ d ih =>
    intro i s p h
    rw [gm_run] at h
    split at h
    · cases h; omega
    · have := ih _ _ _ h; omega
section
variable {g_nodes g_inner g_rules g_place g_listed g_depth g_row g_pc g_node g_position g_size g_fault g_put g_steps : Int32} {b_name b_parent b_value b_kind b_with b_count b_bodyAt b_priority b_given b_there b_wanted b_waiting b_within b_list b_left b_reached b_sizes b_each b_backRow b_backPc b_backNode b_backPosition b_backSize b_output : Nat → Int32}
theorem yo_select {post : Int32 → SY → Prop} {K6 : Nat → Nat} {O6 : Nat → Int32} {l6 n a : Nat} {tb : Nat → Nat → Int32} (T : tr_T b_parent n) (ha : a < n) (hl : l6 ≤ 30) (hk : ys_k b_kind b_with 180 K6 O6 l6) (hc : b_count 6 = nI l6) (h27 : ∀ i, l6 ≤ i → K6 i = 27) (h100 : ∀ i, i < l6 → K6 i < 100) (hov : ∀ x, x < l6 → K6 x = 15 → ∃ v, v < 72 ∧ O6 x = nI v)
    (TE : gm_run K6 l6 0 [3] = none → ∀ c, c < l6 → nu_TE K6 O6 b_value b_parent b_name l6 n tb c)
    (hN : gm_run K6 l6 0 [3] = none → ∀ (gl : Int32) (w bl bw : Nat → Int32), post (tb 0 a) (nI n, g_inner, g_rules, g_place, gl, g_depth, g_row, g_pc, g_node, g_position, g_size, g_fault, g_put, g_steps, b_name, b_parent, b_value, b_kind, b_with, b_count, b_bodyAt, b_priority, b_given, b_there, w, b_waiting, bw, bl, b_left, b_reached, b_sizes, b_each, b_backRow, b_backPc, b_backNode, b_backPosition, b_backSize, b_output))
    (hS : ∀ p, gm_run K6 l6 0 [3] = some p → ∀ w : Nat → Int32, p < 2 ^ 31 → post (-3) (nI n, g_inner, g_rules, nI p, g_listed, g_depth, g_row, g_pc, g_node, g_position, g_size, g_fault, g_put, g_steps, b_name, b_parent, b_value, b_kind, b_with, b_count, b_bodyAt, b_priority, b_given, b_there, w, b_waiting, b_within, b_list, b_left, b_reached, b_sizes, b_each, b_backRow, b_backPc, b_backNode, b_backPosition, b_backSize, b_output)) :
    wpY_select post (nI n, g_inner, g_rules, g_place, g_listed, g_depth, g_row, g_pc, g_node, g_position, g_size, g_fault, g_put, g_steps, b_name, b_parent, b_value, b_kind, b_with, b_count, b_bodyAt, b_priority, b_given, b_there, b_wanted, b_waiting, b_within, b_list, b_left, b_reached, b_sizes, b_each, b_backRow, b_backPc, b_backNode, b_backPosition, b_backSize, b_output) (nI a) := by
  have hn := T.1
  unfold wpY_select
  refine yo_outT ha (by omega) (br_t rfl ?_)
  refine yg_misfit1 (v := 3) (Or.inr rfl) hl hk hc h100 (fun q w => br_t (by decide) ?_) (fun p q w => ?_)
  · obtain ⟨W, k15, e1, e2, e3⟩ := gm_W_sel hl h27 (gm_run_n _ _ _ q)
    rw [hc, show (180 : Int32) + nI l6 = nI (180 + l6) from nI_add 180 l6]
    exact yw_path (y := 180) (i := 0) W (by omega) hk T hov (TE q) (Nat.le_refl _) k15 (by omega) e2 ha fun gl bl bw => hN q gl w bl bw
  · have := gm_run_le K6 l6 0 [3] p q
    exact br_f (nI_pos (by omega)) (hS p q w (by omega))
theorem yo_number {post : Int64 → SY → Prop} {K6 : Nat → Nat} {O6 : Nat → Int32} {l6 n a : Nat} {tb : Nat → Nat → Int32} (T : tr_T b_parent n) (ha : a < n) (hl : l6 ≤ 30) (hk : ys_k b_kind b_with 180 K6 O6 l6) (hc : b_count 6 = nI l6) (h27 : ∀ i, l6 ≤ i → K6 i = 27) (h100 : ∀ i, i < l6 → K6 i < 100) (hov : ∀ x, x < l6 → K6 x = 15 → ∃ v, v < 72 ∧ O6 x = nI v)
    (TE : gm_run K6 l6 0 [2] = none → ∀ c, c < l6 → nu_TE K6 O6 b_value b_parent b_name l6 n tb c)
    (hN : gm_run K6 l6 0 [2] = none → ∀ (gl : Int32) (w wt bl bw : Nat → Int32), post (nu_n K6 O6 b_value tb a 1 1 0).toInt64 (nI n, g_inner, g_rules, g_place, gl, g_depth, g_row, g_pc, g_node, g_position, g_size, g_fault, g_put, g_steps, b_name, b_parent, b_value, b_kind, b_with, b_count, b_bodyAt, b_priority, b_given, b_there, w, wt, bw, bl, b_left, b_reached, b_sizes, b_each, b_backRow, b_backPc, b_backNode, b_backPosition, b_backSize, b_output))
    (hS : ∀ p, gm_run K6 l6 0 [2] = some p → ∀ w : Nat → Int32, p < 2 ^ 31 → post (-9223372036854775807) (nI n, g_inner, g_rules, nI p, g_listed, g_depth, g_row, g_pc, g_node, g_position, g_size, g_fault, g_put, g_steps, b_name, b_parent, b_value, b_kind, b_with, b_count, b_bodyAt, b_priority, b_given, b_there, w, b_waiting, b_within, b_list, b_left, b_reached, b_sizes, b_each, b_backRow, b_backPc, b_backNode, b_backPosition, b_backSize, b_output)) :
    wpY_number post (nI n, g_inner, g_rules, g_place, g_listed, g_depth, g_row, g_pc, g_node, g_position, g_size, g_fault, g_put, g_steps, b_name, b_parent, b_value, b_kind, b_with, b_count, b_bodyAt, b_priority, b_given, b_there, b_wanted, b_waiting, b_within, b_list, b_left, b_reached, b_sizes, b_each, b_backRow, b_backPc, b_backNode, b_backPosition, b_backSize, b_output) (nI a) := by
  have hn := T.1
  unfold wpY_number
  refine yo_outT ha (by omega) (br_t rfl ?_)
  refine yg_misfit1 (v := 2) (Or.inl rfl) hl hk hc h100 (fun q w => br_t (by decide) ?_) (fun p q w => ?_)
  · obtain ⟨W, k14, e1, e2, e3⟩ := gm_W_num hl h27 (gm_run_n _ _ _ q)
    rw [hc, show (180 : Int32) + nI l6 = nI (180 + l6) from nI_add 180 l6, ← e1]
    have k27 := h27 l6 (Nat.le_refl _)
    exact yw_outer (y := 180) (c := 0) W (by omega) hk T hov (TE q) e2 k14 ha (fun x _ x2 => e3 x (by omega)) (by rw [e1, k27]; decide) fun gl wt bl bw => hN q gl w wt bl bw
  · have := gm_run_le K6 l6 0 [2] p q
    exact br_f (nI_pos (by omega)) (hS p q w (by omega))
end
section
variable {f_nodeCount f_innermost f_draftLength f_rulesGiven f_wrongToken f_wantedCount f_inCondition f_depth f_cursor f_outcome f_outputCount f_stepsTaken : Int32} {a_names a_values a_parents a_kinds a_operands a_priorities a_givenAt a_wanted a_axes a_passing a_ends a_openers a_table a_results a_matched a_listLeft a_listNode a_listPosition a_listSize a_listBody a_listReturn a_outputs : Nat → Int32}
theorem xo_select {post : Int32 → SX → Prop} {K : Nat → Nat → Nat} {len : Nat → Nat} {n a : Nat} (T : tr_T a_parents n) (hN0 : ∀ i, i < n → ∃ t, t < 6 ∧ a_names i = nI t) (ha : a < n) (hl : len 6 ≤ 30) (hk : xs_k a_kinds 192 (K 6)) (h27 : ∀ i, len 6 ≤ i → K 6 i = 27) (h100 : ∀ i, i < len 6 → K 6 i < 100) (hov : ∀ x, x < len 6 → K 6 x = 15 → ∃ v, v < 72 ∧ v % 8 < 7 ∧ a_operands (32 * 6 + x) = nI v)
    (hN : gm_run (K 6) (len 6) 0 [3] = none → ∀ (wc ic : Int32) (w A Q E B Tb R : Nat → Int32), (∀ c, c < len 6 → nu_TE (K 6) (fun x => a_operands (32 * 6 + x)) a_values a_parents a_names (len 6) n (fun x a => Tb ((32 * 6 + x) * 24 + a)) c) → post (Tb ((32 * 6 + 0) * 24 + a)) (nI n, f_innermost, nI (len 6), f_rulesGiven, f_wrongToken, wc, ic, f_depth, f_cursor, f_outcome, f_outputCount, f_stepsTaken, a_names, a_values, a_parents, a_kinds, a_operands, a_priorities, a_givenAt, w, A, Q, E, B, Tb, R, a_matched, a_listLeft, a_listNode, a_listPosition, a_listSize, a_listBody, a_listReturn, a_outputs))
    (hS : ∀ p, gm_run (K 6) (len 6) 0 [3] = some p → ∀ (wc ic : Int32) (w : Nat → Int32), post (-3) (nI n, f_innermost, nI (len 6), f_rulesGiven, nI p, wc, ic, f_depth, f_cursor, f_outcome, f_outputCount, f_stepsTaken, a_names, a_values, a_parents, a_kinds, a_operands, a_priorities, a_givenAt, w, a_axes, a_passing, a_ends, a_openers, a_table, a_results, a_matched, a_listLeft, a_listNode, a_listPosition, a_listSize, a_listBody, a_listReturn, a_outputs)) :
    wpX_select post (nI n, f_innermost, nI (len 6), f_rulesGiven, f_wrongToken, f_wantedCount, f_inCondition, f_depth, f_cursor, f_outcome, f_outputCount, f_stepsTaken, a_names, a_values, a_parents, a_kinds, a_operands, a_priorities, a_givenAt, a_wanted, a_axes, a_passing, a_ends, a_openers, a_table, a_results, a_matched, a_listLeft, a_listNode, a_listPosition, a_listSize, a_listBody, a_listReturn, a_outputs) (nI a) := by
  have hn := T.1
  have e4608 : (4608 : Int32) + nI a = nI ((32 * 6 + 0) * 24 + a) := nI_add 4608 a
  unfold wpX_select
  refine xo_nodeT ha hn (br_f (by decide) ?_)
  refine xg_draftIs (p0 := 1) (p1 := 6) (z := false) (b := [6]) (s := [3]) (Or.inr ⟨rfl, rfl⟩) hl hk h100 (by simp [sk_ok, sk_out]) (by decide) rfl (fun q wc ic w => br_f (by decide) ?_) (fun p q wc ic w => br_t rfl (hS p q wc ic w))
  obtain ⟨W, k15, e1, e2, e3⟩ := gm_W_sel hl h27 (gm_run_n _ _ _ q)
  refine xw_tabulate (lo := 192) (hi := 224) (K := K) (len := len) (by omega) (by omega) (by omega) (by omega) T hN0 (fun r r1 r2 => ?_) fun A Q E B Tb R hA hD => ?_
  · have : r = 6 := by omega
    subst this
    exact ⟨W, hk, hov⟩
  · rw [e4608, nI_clamp (by omega)]
    exact ⟨vp_in_nI (by omega) (by omega), hN q wc ic w A Q E B Tb R fun c hc => (hD 6 c (by omega) (by omega) (by omega)).2.1 hc⟩
theorem xo_number {post : Int64 → SX → Prop} {K : Nat → Nat → Nat} {len : Nat → Nat} {n a : Nat} (T : tr_T a_parents n) (hN0 : ∀ i, i < n → ∃ t, t < 6 ∧ a_names i = nI t) (ha : a < n) (hl : len 6 ≤ 30) (hk : xs_k a_kinds 192 (K 6)) (h27 : ∀ i, len 6 ≤ i → K 6 i = 27) (h100 : ∀ i, i < len 6 → K 6 i < 100) (hov : ∀ x, x < len 6 → K 6 x = 15 → ∃ v, v < 72 ∧ v % 8 < 7 ∧ a_operands (32 * 6 + x) = nI v)
    (hN : gm_run (K 6) (len 6) 0 [2] = none → ∀ (wc ic : Int32) (w A Q E B Tb R : Nat → Int32), (∀ c, c < len 6 → nu_TE (K 6) (fun x => a_operands (32 * 6 + x)) a_values a_parents a_names (len 6) n (fun x a => Tb ((32 * 6 + x) * 24 + a)) c) → post (nu_n (K 6) (fun x => a_operands (32 * 6 + x)) a_values (fun x a => Tb ((32 * 6 + x) * 24 + a)) a 1 1 0).toInt64 (nI n, f_innermost, nI (len 6), f_rulesGiven, f_wrongToken, wc, ic, f_depth, f_cursor, f_outcome, f_outputCount, f_stepsTaken, a_names, a_values, a_parents, a_kinds, a_operands, a_priorities, a_givenAt, w, A, Q, E, B, Tb, R, a_matched, a_listLeft, a_listNode, a_listPosition, a_listSize, a_listBody, a_listReturn, a_outputs))
    (hS : ∀ p, gm_run (K 6) (len 6) 0 [2] = some p → ∀ (wc ic : Int32) (w : Nat → Int32), post (-9223372036854775807) (nI n, f_innermost, nI (len 6), f_rulesGiven, nI p, wc, ic, f_depth, f_cursor, f_outcome, f_outputCount, f_stepsTaken, a_names, a_values, a_parents, a_kinds, a_operands, a_priorities, a_givenAt, w, a_axes, a_passing, a_ends, a_openers, a_table, a_results, a_matched, a_listLeft, a_listNode, a_listPosition, a_listSize, a_listBody, a_listReturn, a_outputs)) :
    wpX_number post (nI n, f_innermost, nI (len 6), f_rulesGiven, f_wrongToken, f_wantedCount, f_inCondition, f_depth, f_cursor, f_outcome, f_outputCount, f_stepsTaken, a_names, a_values, a_parents, a_kinds, a_operands, a_priorities, a_givenAt, a_wanted, a_axes, a_passing, a_ends, a_openers, a_table, a_results, a_matched, a_listLeft, a_listNode, a_listPosition, a_listSize, a_listBody, a_listReturn, a_outputs) (nI a) := by
  have hn := T.1
  unfold wpX_number
  refine xo_nodeT ha hn (br_f (by decide) ?_)
  refine xg_draftIs (p0 := 0) (p1 := 6) (z := false) (b := [6]) (s := [2]) (Or.inr ⟨rfl, rfl⟩) hl hk h100 (by simp [sk_ok, sk_out]) (by decide) rfl (fun q wc ic w => br_f (by decide) ?_) (fun p q wc ic w => br_t rfl (hS p q wc ic w))
  obtain ⟨W, k14, e1, e2, e3⟩ := gm_W_num hl h27 (gm_run_n _ _ _ q)
  refine xw_tabulate (lo := 192) (hi := 224) (K := K) (len := len) (by omega) (by omega) (by omega) (by omega) T hN0 (fun r r1 r2 => ?_) fun A Q E B Tb R hA hD => ?_
  · have : r = 6 := by omega
    subst this
    exact ⟨W, hk, hov⟩
  · exact xw_numberAt (b := 32 * 6) (c := 0) (a_table := Tb) W (by omega) hk e2 k14 (fun x _ x2 => (hD 6 x (by omega) (by omega) (by omega)).1) (by omega) fun res => hN q wc ic w A Q E B Tb res fun c hc => (hD 6 c (by omega) (by omega) (by omega)).2.1 hc
end
theorem i_vc_select {k : Nat} {u : SX} {v : SY} (I : i_Rel k u v) (hk : k + 4 ≤ 2048) (v1 : Int32) : wpX_select (fun r u' => wpY_select (fun r' v' => r' = r ∧ i_Rel (k + 4) u' v') v v1) u v1 := by
  refine i_elim (Q := fun u v => wpX_select (fun r u' => wpY_select (fun r' v' => r' = r ∧ i_Rel (k + 4) u' v') v v1) u v1) I ?_
  intro n K len g f_innermost f_wrongToken f_wantedCount f_inCondition f_depth f_cursor f_outcome f_outputCount f_stepsTaken a_names a_values a_parents a_kinds a_operands a_priorities a_givenAt a_wanted a_axes a_passing a_ends a_openers a_table a_results a_matched a_listLeft a_listNode a_listPosition a_listSize a_listBody a_listReturn a_outputs g_listed g_depth g_row g_pc g_node g_position g_size g_fault b_kind b_with b_count b_bodyAt b_given b_there b_wanted b_waiting b_within b_list b_left b_reached b_sizes b_each b_backRow b_backPc b_backNode b_backPosition b_backSize R
  have R4 := rl_up (k' := k + 4) (by omega) R
  obtain ⟨h1, h2, h3, h4, h5, h6, h7⟩ := R4
  have hn := h1.1
  obtain ⟨s1, s2, s3, s4, s5⟩ := h6 6 (by omega)
  have h100 : ∀ i, i < len 6 → K 6 i < 100 := fun i hi => by have := (s5 i hi).1; omega
  have hov : ∀ x, x < len 6 → K 6 x = 15 → ∃ v, v < 72 ∧ a_operands (32 * 6 + x) = nI v := fun x hx k15 => by
    obtain ⟨v, v1, v2, v3⟩ := (s5 x hx).2 k15
    exact ⟨v, v1, v3⟩
  rcases so_ix v1 n (by omega) with q | ⟨a, ha, rfl⟩
  · have Y0 : wpY_select (fun r' v' => r' = -1 ∧ i_Rel (k + 4) (nI n, f_innermost, nI (len 6), nI g, f_wrongToken, f_wantedCount, f_inCondition, f_depth, f_cursor, f_outcome, f_outputCount, f_stepsTaken, a_names, a_values, a_parents, a_kinds, a_operands, a_priorities, a_givenAt, a_wanted, a_axes, a_passing, a_ends, a_openers, a_table, a_results, a_matched, a_listLeft, a_listNode, a_listPosition, a_listSize, a_listBody, a_listReturn, a_outputs) v') (nI n, f_innermost, nI g, f_wrongToken, g_listed, g_depth, g_row, g_pc, g_node, g_position, g_size, g_fault, f_outputCount, f_stepsTaken, a_names, a_parents, a_values, b_kind, b_with, b_count, b_bodyAt, a_priorities, b_given, b_there, b_wanted, b_waiting, b_within, b_list, b_left, b_reached, b_sizes, b_each, b_backRow, b_backPc, b_backNode, b_backPosition, b_backSize, a_outputs) v1 := by
      unfold wpY_select
      exact yo_outF q (br_f (by decide) ⟨rfl, i_mk (K := K) ⟨h1, h2, h3, h4, h5, h6, h7⟩⟩)
    unfold wpX_select
    exact xo_nodeF q (br_t rfl Y0)
  · refine xo_select h1 h2 ha s1 s3 s2 h100 (fun x hx => (s5 x hx).2) (fun q wc ic w A Q E B Tb R TE => ?_) (fun p q wc ic w => ?_)
    · exact yo_select (K6 := K 6) (tb := fun x a => Tb ((32 * 6 + x) * 24 + a)) h1 ha s1 s4 h5 s2 h100 hov (fun _ => TE) (fun _ gl w' bl bw => ⟨rfl, i_mk (K := K) ⟨h1, h2, h3, h4, h5, h6, h7⟩⟩) (fun p q' => by rw [q] at q'; exact nomatch q')
    · refine yo_select (K6 := K 6) (tb := fun _ _ => 0) h1 ha s1 s4 h5 s2 h100 hov (fun q' => by rw [q] at q'; exact nomatch q') (fun q' => by rw [q] at q'; exact nomatch q') (fun p' q' w' hp' => ⟨rfl, ?_⟩)
      have pp : p' = p := by rw [q] at q'; cases q'; rfl
      subst pp
      exact i_mk (K := K) ⟨h1, h2, h3, h4, h5, h6, h7⟩
theorem i_vc_number {k : Nat} {u : SX} {v : SY} (I : i_Rel k u v) (hk : k + 4 ≤ 2048) (v1 : Int32) : wpX_number (fun r u' => wpY_number (fun r' v' => r' = r ∧ i_Rel (k + 4) u' v') v v1) u v1 := by
  refine i_elim (Q := fun u v => wpX_number (fun r u' => wpY_number (fun r' v' => r' = r ∧ i_Rel (k + 4) u' v') v v1) u v1) I ?_
  intro n K len g f_innermost f_wrongToken f_wantedCount f_inCondition f_depth f_cursor f_outcome f_outputCount f_stepsTaken a_names a_values a_parents a_kinds a_operands a_priorities a_givenAt a_wanted a_axes a_passing a_ends a_openers a_table a_results a_matched a_listLeft a_listNode a_listPosition a_listSize a_listBody a_listReturn a_outputs g_listed g_depth g_row g_pc g_node g_position g_size g_fault b_kind b_with b_count b_bodyAt b_given b_there b_wanted b_waiting b_within b_list b_left b_reached b_sizes b_each b_backRow b_backPc b_backNode b_backPosition b_backSize R
  have R4 := rl_up (k' := k + 4) (by omega) R
  obtain ⟨h1, h2, h3, h4, h5, h6, h7⟩ := R4
  have hn := h1.1
  obtain ⟨s1, s2, s3, s4, s5⟩ := h6 6 (by omega)
  have h100 : ∀ i, i < len 6 → K 6 i < 100 := fun i hi => by have := (s5 i hi).1; omega
  have hov : ∀ x, x < len 6 → K 6 x = 15 → ∃ v, v < 72 ∧ a_operands (32 * 6 + x) = nI v := fun x hx k15 => by
    obtain ⟨v, v1, v2, v3⟩ := (s5 x hx).2 k15
    exact ⟨v, v1, v3⟩
  rcases so_ix v1 n (by omega) with q | ⟨a, ha, rfl⟩
  · have Y0 : wpY_number (fun r' v' => r' = -9223372036854775808 ∧ i_Rel (k + 4) (nI n, f_innermost, nI (len 6), nI g, f_wrongToken, f_wantedCount, f_inCondition, f_depth, f_cursor, f_outcome, f_outputCount, f_stepsTaken, a_names, a_values, a_parents, a_kinds, a_operands, a_priorities, a_givenAt, a_wanted, a_axes, a_passing, a_ends, a_openers, a_table, a_results, a_matched, a_listLeft, a_listNode, a_listPosition, a_listSize, a_listBody, a_listReturn, a_outputs) v') (nI n, f_innermost, nI g, f_wrongToken, g_listed, g_depth, g_row, g_pc, g_node, g_position, g_size, g_fault, f_outputCount, f_stepsTaken, a_names, a_parents, a_values, b_kind, b_with, b_count, b_bodyAt, a_priorities, b_given, b_there, b_wanted, b_waiting, b_within, b_list, b_left, b_reached, b_sizes, b_each, b_backRow, b_backPc, b_backNode, b_backPosition, b_backSize, a_outputs) v1 := by
      unfold wpY_number
      exact yo_outF q (br_f (by decide) ⟨rfl, i_mk (K := K) ⟨h1, h2, h3, h4, h5, h6, h7⟩⟩)
    unfold wpX_number
    exact xo_nodeF q (br_t rfl Y0)
  · refine xo_number h1 h2 ha s1 s3 s2 h100 (fun x hx => (s5 x hx).2) (fun q wc ic w A Q E B Tb R TE => ?_) (fun p q wc ic w => ?_)
    · exact yo_number (K6 := K 6) (tb := fun x a => Tb ((32 * 6 + x) * 24 + a)) h1 ha s1 s4 h5 s2 h100 hov (fun _ => TE) (fun _ gl w' wt bl bw => ⟨rfl, i_mk (K := K) ⟨h1, h2, h3, h4, h5, h6, h7⟩⟩) (fun p q' => by rw [q] at q'; exact nomatch q')
    · refine yo_number (K6 := K 6) (tb := fun _ _ => 0) h1 ha s1 s4 h5 s2 h100 hov (fun q' => by rw [q] at q'; exact nomatch q') (fun q' => by rw [q] at q'; exact nomatch q') (fun p' q' w' hp' => ⟨rfl, ?_⟩)
      have pp : p' = p := by rw [q] at q'; cases q'; rfl
      subst pp
      exact i_mk (K := K) ⟨h1, h2, h3, h4, h5, h6, h7⟩
