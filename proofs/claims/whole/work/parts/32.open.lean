/-! open and relabel -/
section
variable {f_nodeCount f_innermost f_draftLength f_rulesGiven f_wrongToken f_wantedCount f_inCondition f_depth f_cursor f_outcome f_outputCount f_stepsTaken : Int32} {a_names a_values a_parents a_kinds a_operands a_priorities a_givenAt a_wanted a_axes a_passing a_ends a_openers a_table a_results a_matched a_listLeft a_listNode a_listPosition a_listSize a_listBody a_listReturn a_outputs : Nat → Int32}
theorem xo_19F {post : Int32 → SX → Prop} {n : Nat} {v1 v2 z0 : Int32} (hn : n ≤ 24) (h : (v1 < 0 ∨ nI 6 ≤ v1) ∨ n = 24 ∨ z0 ≠ 0) (hp : post (-1) (nI n, f_innermost, f_draftLength, f_rulesGiven, f_wrongToken, f_wantedCount, f_inCondition, f_depth, f_cursor, f_outcome, f_outputCount, f_stepsTaken, a_names, a_values, a_parents, a_kinds, a_operands, a_priorities, a_givenAt, a_wanted, a_axes, a_passing, a_ends, a_openers, a_table, a_results, a_matched, a_listLeft, a_listNode, a_listPosition, a_listSize, a_listBody, a_listReturn, a_outputs)) : wX_open_19 post v1 v2 z0 (nI n) f_innermost f_draftLength f_rulesGiven f_wrongToken f_wantedCount f_inCondition f_depth f_cursor f_outcome f_outputCount f_stepsTaken a_names a_values a_parents a_kinds a_operands a_priorities a_givenAt a_wanted a_axes a_passing a_ends a_openers a_table a_results a_matched a_listLeft a_listNode a_listPosition a_listSize a_listBody a_listReturn a_outputs := by
  unfold wX_open_19
  rcases so_name v1 with q | ⟨t, ht, rfl⟩
  · exact xo_nameF q (br_t rfl hp)
  · refine xo_nameT ht (br_f (by decide) (pk_le 24 n (fun _ => hp) (fun y => br_f ?_ hp)))
    rcases h with q | q | q
    · rcases q with q | q
      · exact absurd q (nI_pos (by omega))
      · exact absurd q (nI_ge ht (by omega))
    · omega
    · exact q
theorem xo_19T {post : Int32 → SX → Prop} {n t : Nat} {v2 : Int32} (hn : n < 24) (ht : t < 6) (hp : post (nI n) (nI (n + 1), nI n, f_draftLength, f_rulesGiven, f_wrongToken, f_wantedCount, f_inCondition, f_depth, f_cursor, f_outcome, f_outputCount, f_stepsTaken, upd a_names n (nI t), upd a_values n v2, upd a_parents n f_innermost, a_kinds, a_operands, a_priorities, a_givenAt, a_wanted, a_axes, a_passing, a_ends, a_openers, a_table, a_results, a_matched, a_listLeft, a_listNode, a_listPosition, a_listSize, a_listBody, a_listReturn, a_outputs)) : wX_open_19 post (nI t) v2 0 (nI n) f_innermost f_draftLength f_rulesGiven f_wrongToken f_wantedCount f_inCondition f_depth f_cursor f_outcome f_outputCount f_stepsTaken a_names a_values a_parents a_kinds a_operands a_priorities a_givenAt a_wanted a_axes a_passing a_ends a_openers a_table a_results a_matched a_listLeft a_listNode a_listPosition a_listSize a_listBody a_listReturn a_outputs := by
  unfold wX_open_19
  have cn : (nI n).toNatClampNeg = n := nI_clamp (by omega)
  have vi : vp_in (nI n) 24 := vp_in_nI hn (by omega)
  refine xo_nameT ht (br_f (by decide) (br_f (nI_ge (b := 24) hn (by omega)) (br_t rfl ⟨vi, nm_r (e' := upd a_names n (nI t)) (by rw [cn]) ⟨vi, nm_r (e' := upd a_values n v2) (by rw [cn]) ⟨vi, nm_r (e' := upd a_parents n f_innermost) (by rw [cn]) (nm_r (nI_1 n) hp)⟩⟩⟩)))
theorem xo_openF {post : Int32 → SX → Prop} {n : Nat} {v1 v2 : Int32} (hn : n ≤ 24) (h : (v1 < 0 ∨ nI 6 ≤ v1) ∨ n = 24 ∨ (0 < n ∧ f_innermost < 0)) (hp : post (-1) (nI n, f_innermost, f_draftLength, f_rulesGiven, f_wrongToken, f_wantedCount, f_inCondition, f_depth, f_cursor, f_outcome, f_outputCount, f_stepsTaken, a_names, a_values, a_parents, a_kinds, a_operands, a_priorities, a_givenAt, a_wanted, a_axes, a_passing, a_ends, a_openers, a_table, a_results, a_matched, a_listLeft, a_listNode, a_listPosition, a_listSize, a_listBody, a_listReturn, a_outputs)) : wpX_open post (nI n, f_innermost, f_draftLength, f_rulesGiven, f_wrongToken, f_wantedCount, f_inCondition, f_depth, f_cursor, f_outcome, f_outputCount, f_stepsTaken, a_names, a_values, a_parents, a_kinds, a_operands, a_priorities, a_givenAt, a_wanted, a_axes, a_passing, a_ends, a_openers, a_table, a_results, a_matched, a_listLeft, a_listNode, a_listPosition, a_listSize, a_listBody, a_listReturn, a_outputs) v1 v2 := by
  refine pk_le n 0 (fun q => ?_) (fun q => br_c (fun y => ?_) (fun y => ?_))
  · refine xo_19F (z0 := 0) hn ?_ hp
    rcases h with h | h | h
    · exact Or.inl h
    · exact Or.inr (Or.inl h)
    · omega
  · refine xo_19F (z0 := 0) hn ?_ hp
    rcases h with h | h | h
    · exact Or.inl h
    · exact Or.inr (Or.inl h)
    · exact absurd h.2 (Int32.not_lt.mpr y)
  · exact xo_19F hn (Or.inr (Or.inr (by decide))) hp
theorem xo_openT {post : Int32 → SX → Prop} {n t : Nat} {v2 : Int32} (hn : n < 24) (ht : t < 6) (h : n = 0 ∨ ¬ f_innermost < 0) (hp : post (nI n) (nI (n + 1), nI n, f_draftLength, f_rulesGiven, f_wrongToken, f_wantedCount, f_inCondition, f_depth, f_cursor, f_outcome, f_outputCount, f_stepsTaken, upd a_names n (nI t), upd a_values n v2, upd a_parents n f_innermost, a_kinds, a_operands, a_priorities, a_givenAt, a_wanted, a_axes, a_passing, a_ends, a_openers, a_table, a_results, a_matched, a_listLeft, a_listNode, a_listPosition, a_listSize, a_listBody, a_listReturn, a_outputs)) : wpX_open post (nI n, f_innermost, f_draftLength, f_rulesGiven, f_wrongToken, f_wantedCount, f_inCondition, f_depth, f_cursor, f_outcome, f_outputCount, f_stepsTaken, a_names, a_values, a_parents, a_kinds, a_operands, a_priorities, a_givenAt, a_wanted, a_axes, a_passing, a_ends, a_openers, a_table, a_results, a_matched, a_listLeft, a_listNode, a_listPosition, a_listSize, a_listBody, a_listReturn, a_outputs) (nI t) v2 := by
  refine pk_le n 0 (fun q => xo_19T hn ht hp) (fun q => ?_)
  rcases h with h | h
  · omega
  · exact br_t (Int32.not_lt.mp h) (xo_19T hn ht hp)
theorem xo_relabelF {post : Int32 → SX → Prop} {n : Nat} {v1 v2 v3 : Int32} (hn : n ≤ 24) (h : (v1 < 0 ∨ nI n ≤ v1) ∨ (v2 < 0 ∨ nI 6 ≤ v2)) (hp : post 0 (nI n, f_innermost, f_draftLength, f_rulesGiven, f_wrongToken, f_wantedCount, f_inCondition, f_depth, f_cursor, f_outcome, f_outputCount, f_stepsTaken, a_names, a_values, a_parents, a_kinds, a_operands, a_priorities, a_givenAt, a_wanted, a_axes, a_passing, a_ends, a_openers, a_table, a_results, a_matched, a_listLeft, a_listNode, a_listPosition, a_listSize, a_listBody, a_listReturn, a_outputs)) : wpX_relabel post (nI n, f_innermost, f_draftLength, f_rulesGiven, f_wrongToken, f_wantedCount, f_inCondition, f_depth, f_cursor, f_outcome, f_outputCount, f_stepsTaken, a_names, a_values, a_parents, a_kinds, a_operands, a_priorities, a_givenAt, a_wanted, a_axes, a_passing, a_ends, a_openers, a_table, a_results, a_matched, a_listLeft, a_listNode, a_listPosition, a_listSize, a_listBody, a_listReturn, a_outputs) v1 v2 v3 := by
  unfold wpX_relabel
  rcases so_ix v1 n (by omega) with q | ⟨j, hj, rfl⟩
  · exact xo_nodeF q (br_t rfl hp)
  · rcases h with h | h
    · rcases h with h | h
      · exact absurd h (nI_pos (by omega))
      · exact absurd h (nI_ge hj (by omega))
    · exact xo_nodeT hj hn (br_f (by decide) (xo_nameF h (br_t rfl hp)))
theorem xo_relabelT {post : Int32 → SX → Prop} {n j t : Nat} {v3 : Int32} (hn : n ≤ 24) (hj : j < n) (ht : t < 6) (hp : post 1 (nI n, f_innermost, f_draftLength, f_rulesGiven, f_wrongToken, f_wantedCount, f_inCondition, f_depth, f_cursor, f_outcome, f_outputCount, f_stepsTaken, upd a_names j (nI t), upd a_values j v3, a_parents, a_kinds, a_operands, a_priorities, a_givenAt, a_wanted, a_axes, a_passing, a_ends, a_openers, a_table, a_results, a_matched, a_listLeft, a_listNode, a_listPosition, a_listSize, a_listBody, a_listReturn, a_outputs)) : wpX_relabel post (nI n, f_innermost, f_draftLength, f_rulesGiven, f_wrongToken, f_wantedCount, f_inCondition, f_depth, f_cursor, f_outcome, f_outputCount, f_stepsTaken, a_names, a_values, a_parents, a_kinds, a_operands, a_priorities, a_givenAt, a_wanted, a_axes, a_passing, a_ends, a_openers, a_table, a_results, a_matched, a_listLeft, a_listNode, a_listPosition, a_listSize, a_listBody, a_listReturn, a_outputs) (nI j) (nI t) v3 := by
  unfold wpX_relabel
  have cj : (nI j).toNatClampNeg = j := nI_clamp (by omega)
  have vi : vp_in (nI j) 24 := vp_in_nI (by omega) (by omega)
  exact xo_nodeT hj hn (br_f (by decide) (xo_nameT ht (br_f (by decide) ⟨vi, nm_r (e' := upd a_names j (nI t)) (by rw [cj]) ⟨vi, nm_r (e' := upd a_values j v3) (by rw [cj]) hp⟩⟩)))
end
section
variable {g_nodes g_inner g_rules g_place g_listed g_depth g_row g_pc g_node g_position g_size g_fault g_put g_steps : Int32} {b_name b_parent b_value b_kind b_with b_count b_bodyAt b_priority b_given b_there b_wanted b_waiting b_within b_list b_left b_reached b_sizes b_each b_backRow b_backPc b_backNode b_backPosition b_backSize b_output : Nat → Int32}
theorem yo_openF {post : Int32 → SY → Prop} {n : Nat} {v1 v2 : Int32} (hn : n ≤ 24) (h : (v1 < 0 ∨ nI 6 ≤ v1) ∨ n = 24 ∨ (0 < n ∧ g_inner < 0)) (hp : post (-1) (nI n, g_inner, g_rules, g_place, g_listed, g_depth, g_row, g_pc, g_node, g_position, g_size, g_fault, g_put, g_steps, b_name, b_parent, b_value, b_kind, b_with, b_count, b_bodyAt, b_priority, b_given, b_there, b_wanted, b_waiting, b_within, b_list, b_left, b_reached, b_sizes, b_each, b_backRow, b_backPc, b_backNode, b_backPosition, b_backSize, b_output)) : wpY_open post (nI n, g_inner, g_rules, g_place, g_listed, g_depth, g_row, g_pc, g_node, g_position, g_size, g_fault, g_put, g_steps, b_name, b_parent, b_value, b_kind, b_with, b_count, b_bodyAt, b_priority, b_given, b_there, b_wanted, b_waiting, b_within, b_list, b_left, b_reached, b_sizes, b_each, b_backRow, b_backPc, b_backNode, b_backPosition, b_backSize, b_output) v1 v2 := by
  unfold wpY_open
  rcases so_name v1 with q | ⟨t, ht, rfl⟩
  · exact yo_outF (n := 6) q (br_f (by decide) hp)
  · refine yo_outT (n := 6) ht (by omega) (br_t rfl (pk_eq n 24 (fun _ => hp) (fun y => ?_)))
    rcases h with q | q | q
    · rcases q with q | q
      · exact absurd q (nI_pos (by omega))
      · exact absurd q (nI_ge ht (by omega))
    · omega
    · exact pk_le n 0 (fun z => absurd z (by omega)) (fun _ => br_f (Int32.not_le.mpr q.2) hp)
theorem yo_openT {post : Int32 → SY → Prop} {n t : Nat} {v2 : Int32} (hn : n < 24) (ht : t < 6) (h : n = 0 ∨ ¬ g_inner < 0) (hi : vp_nar .byte g_inner.toInt8.toInt32 = g_inner) (hp : post (nI n) (nI (n + 1), nI n, g_rules, g_place, g_listed, g_depth, g_row, g_pc, g_node, g_position, g_size, g_fault, g_put, g_steps, upd b_name n (nI t), upd b_parent n g_inner, upd b_value n v2, b_kind, b_with, b_count, b_bodyAt, b_priority, b_given, b_there, b_wanted, b_waiting, b_within, b_list, b_left, b_reached, b_sizes, b_each, b_backRow, b_backPc, b_backNode, b_backPosition, b_backSize, b_output)) : wpY_open post (nI n, g_inner, g_rules, g_place, g_listed, g_depth, g_row, g_pc, g_node, g_position, g_size, g_fault, g_put, g_steps, b_name, b_parent, b_value, b_kind, b_with, b_count, b_bodyAt, b_priority, b_given, b_there, b_wanted, b_waiting, b_within, b_list, b_left, b_reached, b_sizes, b_each, b_backRow, b_backPc, b_backNode, b_backPosition, b_backSize, b_output) (nI t) v2 := by
  unfold wpY_open
  have cn : (nI n).toNatClampNeg = n := nI_clamp (by omega)
  have vi : vp_in (nI n) 24 := vp_in_nI hn (by omega)
  have w34 : wY_open_34 post (nI t) v2 (nI n) g_inner g_rules g_place g_listed g_depth g_row g_pc g_node g_position g_size g_fault g_put g_steps b_name b_parent b_value b_kind b_with b_count b_bodyAt b_priority b_given b_there b_wanted b_waiting b_within b_list b_left b_reached b_sizes b_each b_backRow b_backPc b_backNode b_backPosition b_backSize b_output := ⟨vi, nm_r (e' := upd b_name n (nI t)) (by rw [cn, yw_nar (by omega)]) ⟨vi, nm_r (e' := upd b_value n v2) (by rw [cn]) ⟨vi, nm_r (e' := upd b_parent n g_inner) (by rw [cn, hi]) (nm_r (nI_1 n) hp)⟩⟩⟩
  refine yo_outT (n := 6) ht (by omega) (br_t rfl (pk_eq n 24 (fun z => absurd z (by omega)) (fun _ => pk_le n 0 (fun _ => w34) (fun q => ?_))))
  rcases h with h | h
  · omega
  · exact br_t (Int32.not_lt.mp h) w34
theorem yo_relabelF {post : Int32 → SY → Prop} {n : Nat} {v1 v2 v3 : Int32} (hn : n ≤ 24) (h : (v1 < 0 ∨ nI n ≤ v1) ∨ (v2 < 0 ∨ nI 6 ≤ v2)) (hp : post 0 (nI n, g_inner, g_rules, g_place, g_listed, g_depth, g_row, g_pc, g_node, g_position, g_size, g_fault, g_put, g_steps, b_name, b_parent, b_value, b_kind, b_with, b_count, b_bodyAt, b_priority, b_given, b_there, b_wanted, b_waiting, b_within, b_list, b_left, b_reached, b_sizes, b_each, b_backRow, b_backPc, b_backNode, b_backPosition, b_backSize, b_output)) : wpY_relabel post (nI n, g_inner, g_rules, g_place, g_listed, g_depth, g_row, g_pc, g_node, g_position, g_size, g_fault, g_put, g_steps, b_name, b_parent, b_value, b_kind, b_with, b_count, b_bodyAt, b_priority, b_given, b_there, b_wanted, b_waiting, b_within, b_list, b_left, b_reached, b_sizes, b_each, b_backRow, b_backPc, b_backNode, b_backPosition, b_backSize, b_output) v1 v2 v3 := by
  unfold wpY_relabel
  rcases so_ix v1 n (by omega) with q | ⟨j, hj, rfl⟩
  · exact yo_outF q (br_f (by decide) hp)
  · rcases h with h | h
    · rcases h with h | h
      · exact absurd h (nI_pos (by omega))
      · exact absurd h (nI_ge hj (by omega))
    · exact yo_outT hj (by omega) (br_t rfl (yo_outF (n := 6) h (br_f (by decide) hp)))
theorem yo_relabelT {post : Int32 → SY → Prop} {n j t : Nat} {v3 : Int32} (hn : n ≤ 24) (hj : j < n) (ht : t < 6) (hp : post 1 (nI n, g_inner, g_rules, g_place, g_listed, g_depth, g_row, g_pc, g_node, g_position, g_size, g_fault, g_put, g_steps, upd b_name j (nI t), b_parent, upd b_value j v3, b_kind, b_with, b_count, b_bodyAt, b_priority, b_given, b_there, b_wanted, b_waiting, b_within, b_list, b_left, b_reached, b_sizes, b_each, b_backRow, b_backPc, b_backNode, b_backPosition, b_backSize, b_output)) : wpY_relabel post (nI n, g_inner, g_rules, g_place, g_listed, g_depth, g_row, g_pc, g_node, g_position, g_size, g_fault, g_put, g_steps, b_name, b_parent, b_value, b_kind, b_with, b_count, b_bodyAt, b_priority, b_given, b_there, b_wanted, b_waiting, b_within, b_list, b_left, b_reached, b_sizes, b_each, b_backRow, b_backPc, b_backNode, b_backPosition, b_backSize, b_output) (nI j) (nI t) v3 := by
  unfold wpY_relabel
  have cj : (nI j).toNatClampNeg = j := nI_clamp (by omega)
  have vi : vp_in (nI j) 24 := vp_in_nI (by omega) (by omega)
  exact yo_outT hj (by omega) (br_t rfl (yo_outT (n := 6) ht (by omega) (br_t rfl ⟨vi, nm_r (e' := upd b_name j (nI t)) (by rw [cj, yw_nar (by omega)]) ⟨vi, nm_r (e' := upd b_value j v3) (by rw [cj]) hp⟩⟩)))
end
theorem so_m1 : vp_nar .byte (-1 : Int32).toInt8.toInt32 = -1 := by rw [vp_nar_byte]; decide
theorem i_vc_open {k : Nat} {u : SX} {v : SY} (I : i_Rel k u v) (hk : k + 4 ≤ 2048) (v1 : Int32) (v2 : Int32) : wpX_open (fun r u' => wpY_open (fun r' v' => r' = r ∧ i_Rel (k + 4) u' v') v v1 v2) u v1 v2 := by
  refine i_elim (Q := fun u v => wpX_open (fun r u' => wpY_open (fun r' v' => r' = r ∧ i_Rel (k + 4) u' v') v v1 v2) u v1 v2) I ?_
  intro n K len g f_innermost f_wrongToken f_wantedCount f_inCondition f_depth f_cursor f_outcome f_outputCount f_stepsTaken a_names a_values a_parents a_kinds a_operands a_priorities a_givenAt a_wanted a_axes a_passing a_ends a_openers a_table a_results a_matched a_listLeft a_listNode a_listPosition a_listSize a_listBody a_listReturn a_outputs g_listed g_depth g_row g_pc g_node g_position g_size g_fault b_kind b_with b_count b_bodyAt b_given b_there b_wanted b_waiting b_within b_list b_left b_reached b_sizes b_each b_backRow b_backPc b_backNode b_backPosition b_backSize R
  have R4 := rl_up (k' := k + 4) (by omega) R
  obtain ⟨h1, h2, h3, h4, h5, h6, h7⟩ := R4
  have hn := h1.1
  by_cases bad : (v1 < 0 ∨ nI 6 ≤ v1) ∨ n = 24 ∨ (0 < n ∧ f_innermost < 0)
  · exact xo_openF hn bad (yo_openF hn bad ⟨rfl, i_mk (K := K) ⟨h1, h2, h3, h4, h5, h6, h7⟩⟩)
  · rcases so_name v1 with q | ⟨t, ht, rfl⟩
    · exact absurd (Or.inl q) bad
    · have n24 : n < 24 := by
        rcases Nat.lt_or_ge n 24 with z | z
        · exact z
        · exact absurd (Or.inr (Or.inl (by omega))) bad
      have hin : n = 0 ∨ ¬ f_innermost < 0 := by
        rcases Nat.eq_zero_or_pos n with z | z
        · exact Or.inl z
        · exact Or.inr (fun y => bad (Or.inr (Or.inr ⟨z, y⟩)))
      have hb : vp_nar .byte f_innermost.toInt8.toInt32 = f_innermost := by
        rcases h3 with rfl | ⟨i, hi, rfl⟩
        · exact so_m1
        · exact yw_nar (by omega)
      refine xo_openT n24 ht hin (yo_openT n24 ht hin hb ⟨rfl, i_mk (K := K) ⟨⟨by omega, fun i hi => ?_⟩, fun i hi => ?_, Or.inr ⟨n, by omega, rfl⟩, h4, h5, h6, h7⟩⟩)
      · rcases Nat.lt_or_ge i n with z | z
        · rw [pk_un (by omega)]; exact h1.2 i z
        · have e : i = n := by omega
          subst e
          rw [pk_us]
          rcases h3 with z | ⟨p, hp, z⟩
          · refine Or.inl ⟨?_, z⟩
            rcases hin with y | y
            · exact y
            · exact absurd (by rw [z]; decide) y
          · exact Or.inr ⟨by omega, p, hp, z⟩
      · rcases Nat.lt_or_ge i n with z | z
        · rw [pk_un (by omega)]; exact h2 i z
        · have e : i = n := by omega
          rw [e, pk_us]; exact ⟨t, ht, rfl⟩
theorem i_vc_relabel {k : Nat} {u : SX} {v : SY} (I : i_Rel k u v) (hk : k + 4 ≤ 2048) (v1 : Int32) (v2 : Int32) (v3 : Int32) : wpX_relabel (fun r u' => wpY_relabel (fun r' v' => r' = r ∧ i_Rel (k + 4) u' v') v v1 v2 v3) u v1 v2 v3 := by
  refine i_elim (Q := fun u v => wpX_relabel (fun r u' => wpY_relabel (fun r' v' => r' = r ∧ i_Rel (k + 4) u' v') v v1 v2 v3) u v1 v2 v3) I ?_
  intro n K len g f_innermost f_wrongToken f_wantedCount f_inCondition f_depth f_cursor f_outcome f_outputCount f_stepsTaken a_names a_values a_parents a_kinds a_operands a_priorities a_givenAt a_wanted a_axes a_passing a_ends a_openers a_table a_results a_matched a_listLeft a_listNode a_listPosition a_listSize a_listBody a_listReturn a_outputs g_listed g_depth g_row g_pc g_node g_position g_size g_fault b_kind b_with b_count b_bodyAt b_given b_there b_wanted b_waiting b_within b_list b_left b_reached b_sizes b_each b_backRow b_backPc b_backNode b_backPosition b_backSize R
  have R4 := rl_up (k' := k + 4) (by omega) R
  obtain ⟨h1, h2, h3, h4, h5, h6, h7⟩ := R4
  have hn := h1.1
  rcases so_ix v1 n (by omega) with q | ⟨j, hj, rfl⟩
  · exact xo_relabelF hn (Or.inl q) (yo_relabelF hn (Or.inl q) ⟨rfl, i_mk (K := K) ⟨h1, h2, h3, h4, h5, h6, h7⟩⟩)
  · rcases so_name v2 with q | ⟨t, ht, rfl⟩
    · exact xo_relabelF hn (Or.inr q) (yo_relabelF hn (Or.inr q) ⟨rfl, i_mk (K := K) ⟨h1, h2, h3, h4, h5, h6, h7⟩⟩)
    · refine xo_relabelT hn hj ht (yo_relabelT hn hj ht ⟨rfl, i_mk (K := K) ⟨h1, fun i hi => ?_, h3, h4, h5, h6, h7⟩⟩)
      by_cases z : i = j
      · rw [z, pk_us]; exact ⟨t, ht, rfl⟩
      · rw [pk_un z]; exact h2 i hi
