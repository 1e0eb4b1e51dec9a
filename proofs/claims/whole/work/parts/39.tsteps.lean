/-! transform: the single steps -/
section
variable {f_nodeCount f_innermost f_draftLength f_rulesGiven f_wrongToken f_wantedCount f_inCondition f_depth f_cursor f_outcome f_outputCount f_stepsTaken : Int32} {a_names a_values a_parents a_kinds a_operands a_priorities a_givenAt a_wanted a_axes a_passing a_ends a_openers a_table a_results a_matched a_listLeft a_listNode a_listPosition a_listSize a_listBody a_listReturn a_outputs : Nat → Int32}
def tf_o (ou : Nat → Int32) (oc : Nat) (v : Int32) : Nat → Int32 := if oc < 60 then upd ou oc v else ou
theorem xt_put {post : SX → Prop} {oc : Nat} {v : Int32} (h : oc < 2 ^ 30) (hp : post (f_nodeCount, f_innermost, f_draftLength, f_rulesGiven, f_wrongToken, f_wantedCount, f_inCondition, f_depth, f_cursor, f_outcome, nI (oc + 1), f_stepsTaken, a_names, a_values, a_parents, a_kinds, a_operands, a_priorities, a_givenAt, a_wanted, a_axes, a_passing, a_ends, a_openers, a_table, a_results, a_matched, a_listLeft, a_listNode, a_listPosition, a_listSize, a_listBody, a_listReturn, tf_o a_outputs oc v)) : wpX_putOut post (f_nodeCount, f_innermost, f_draftLength, f_rulesGiven, f_wrongToken, f_wantedCount, f_inCondition, f_depth, f_cursor, f_outcome, nI oc, f_stepsTaken, a_names, a_values, a_parents, a_kinds, a_operands, a_priorities, a_givenAt, a_wanted, a_axes, a_passing, a_ends, a_openers, a_table, a_results, a_matched, a_listLeft, a_listNode, a_listPosition, a_listSize, a_listBody, a_listReturn, a_outputs) v := by
  unfold tf_o at hp
  by_cases q : oc < 60
  · rw [if_pos q] at hp
    exact br_f (nI_ge (b := 60) q (by omega)) ⟨vp_in_nI q (by omega), nm_r (e' := upd a_outputs oc v) (by rw [nI_clamp (by omega)]) (nm_r (nI_1 oc) hp)⟩
  · rw [if_neg q] at hp
    exact br_t (nI_le (a := 60) (by omega) (by omega)) (nm_r (nI_1 oc) hp)
theorem xt_beginT {post : SX → Prop} {d : Nat} {x b ret : Int32} (hd : d < 12) (hp : post (f_nodeCount, f_innermost, f_draftLength, f_rulesGiven, f_wrongToken, f_wantedCount, f_inCondition, nI (d + 1), 223, f_outcome, f_outputCount, f_stepsTaken, a_names, a_values, a_parents, a_kinds, a_operands, a_priorities, a_givenAt, a_wanted, a_axes, a_passing, a_ends, a_openers, a_table, a_results, a_matched, upd a_listLeft d x, a_listNode, upd a_listPosition d 0, upd a_listSize d (nI (nu_cnt x 24)), upd a_listBody d b, upd a_listReturn d ret, a_outputs)) : wpX_beginList post (f_nodeCount, f_innermost, f_draftLength, f_rulesGiven, f_wrongToken, f_wantedCount, f_inCondition, nI d, f_cursor, f_outcome, f_outputCount, f_stepsTaken, a_names, a_values, a_parents, a_kinds, a_operands, a_priorities, a_givenAt, a_wanted, a_axes, a_passing, a_ends, a_openers, a_table, a_results, a_matched, a_listLeft, a_listNode, a_listPosition, a_listSize, a_listBody, a_listReturn, a_outputs) x b ret := by
  have cd : (nI d).toNatClampNeg = d := nI_clamp (by omega)
  have vd : vp_in (nI d) 12 := vp_in_nI hd (by omega)
  exact br_t (nI_lt (b := 12) hd (by omega)) ⟨vd, nm_r (e' := upd a_listLeft d x) (by rw [cd]) ⟨vd, nm_r (e' := upd a_listPosition d 0) (by rw [cd]) (xw_nodesIn ⟨vd, nm_r (e' := upd a_listSize d (nI (nu_cnt x 24))) (by rw [cd]) ⟨vd, nm_r (e' := upd a_listBody d b) (by rw [cd]) ⟨vd, nm_r (e' := upd a_listReturn d ret) (by rw [cd]) (nm_r (nI_1 d) hp)⟩⟩⟩)⟩⟩
theorem xt_beginF {post : SX → Prop} {d : Nat} {x b ret : Int32} (hd : d = 12) (hp : post (f_nodeCount, f_innermost, f_draftLength, f_rulesGiven, f_wrongToken, f_wantedCount, f_inCondition, nI d, f_cursor, 2, f_outputCount, f_stepsTaken, a_names, a_values, a_parents, a_kinds, a_operands, a_priorities, a_givenAt, a_wanted, a_axes, a_passing, a_ends, a_openers, a_table, a_results, a_matched, a_listLeft, a_listNode, a_listPosition, a_listSize, a_listBody, a_listReturn, a_outputs)) : wpX_beginList post (f_nodeCount, f_innermost, f_draftLength, f_rulesGiven, f_wrongToken, f_wantedCount, f_inCondition, nI d, f_cursor, f_outcome, f_outputCount, f_stepsTaken, a_names, a_values, a_parents, a_kinds, a_operands, a_priorities, a_givenAt, a_wanted, a_axes, a_passing, a_ends, a_openers, a_table, a_results, a_matched, a_listLeft, a_listNode, a_listPosition, a_listSize, a_listBody, a_listReturn, a_outputs) x b ret :=
  br_f (by rw [hd]; decide) hp
theorem xt_handleR {post : SX → Prop} {m r : Nat} {e0 : Int32} (hm : m < 24) (hr : r < 6) (hb : bs (fun r => bt (a_matched r) m) a_priorities a_givenAt 6 0 none = some r) (he : a_ends (32 * r) = e0) (hp : post (f_nodeCount, f_innermost, f_draftLength, f_rulesGiven, f_wrongToken, f_wantedCount, f_inCondition, f_depth, e0, f_outcome, f_outputCount, f_stepsTaken, a_names, a_values, a_parents, a_kinds, a_operands, a_priorities, a_givenAt, a_wanted, a_axes, a_passing, a_ends, a_openers, a_table, a_results, a_matched, a_listLeft, a_listNode, a_listPosition, a_listSize, a_listBody, a_listReturn, a_outputs)) : wpX_handle post (f_nodeCount, f_innermost, f_draftLength, f_rulesGiven, f_wrongToken, f_wantedCount, f_inCondition, f_depth, f_cursor, f_outcome, f_outputCount, f_stepsTaken, a_names, a_values, a_parents, a_kinds, a_operands, a_priorities, a_givenAt, a_wanted, a_axes, a_passing, a_ends, a_openers, a_table, a_results, a_matched, a_listLeft, a_listNode, a_listPosition, a_listSize, a_listBody, a_listReturn, a_outputs) (nI m) := by
  have e24 : (24 : Int32) + nI m = nI (24 + m) := nI_add 24 m
  have e32 : nI r * 32 = nI (32 * r) := by rw [show (32 : Int32) = nI 32 from rfl, pk_mul, Nat.mul_comm]
  unfold wpX_handle
  refine xo_best hm ?_
  rw [hb]
  refine ⟨by rw [e24]; exact vp_in_nI (by omega) (by omega), nm_e (br_f (nI_pos (n := r) (by omega)) ?_)⟩
  show vp_in (nI r * 32) 224 ∧ _
  rw [e32]
  exact ⟨vp_in_nI (by omega) (by omega), nm_r (e' := e0) (by rw [show (bs_i (some r)) = nI r from rfl, e32, nI_clamp (by omega)]; exact he) hp⟩
theorem xt_handleV {post : SX → Prop} {m oc : Nat} (hm : m < 24) (ho : oc < 2 ^ 30) (hb : bs (fun r => bt (a_matched r) m) a_priorities a_givenAt 6 0 none = none) (hc : a_axes (24 + m) = 0) (hp : post (f_nodeCount, f_innermost, f_draftLength, f_rulesGiven, f_wrongToken, f_wantedCount, f_inCondition, f_depth, 223, f_outcome, nI (oc + 1), f_stepsTaken, a_names, a_values, a_parents, a_kinds, a_operands, a_priorities, a_givenAt, a_wanted, a_axes, a_passing, a_ends, a_openers, a_table, a_results, a_matched, a_listLeft, a_listNode, a_listPosition, a_listSize, a_listBody, a_listReturn, tf_o a_outputs oc (a_values m))) : wpX_handle post (f_nodeCount, f_innermost, f_draftLength, f_rulesGiven, f_wrongToken, f_wantedCount, f_inCondition, f_depth, f_cursor, f_outcome, nI oc, f_stepsTaken, a_names, a_values, a_parents, a_kinds, a_operands, a_priorities, a_givenAt, a_wanted, a_axes, a_passing, a_ends, a_openers, a_table, a_results, a_matched, a_listLeft, a_listNode, a_listPosition, a_listSize, a_listBody, a_listReturn, a_outputs) (nI m) := by
  have e24 : (24 : Int32) + nI m = nI (24 + m) := nI_add 24 m
  unfold wpX_handle
  refine xo_best hm ?_
  rw [hb]
  refine ⟨by rw [e24]; exact vp_in_nI (by omega) (by omega), nm_r (e' := a_axes (24 + m)) (by rw [e24, nI_clamp (by omega)]) (br_t (by decide) (br_t hc ⟨vp_in_nI hm (by omega), ?_⟩))⟩
  rw [nI_clamp (by omega)]
  exact xt_put ho hp
theorem xt_handleC {post : SX → Prop} {m : Nat} (hm : m < 24) (hb : bs (fun r => bt (a_matched r) m) a_priorities a_givenAt 6 0 none = none) (hc : ¬ a_axes (24 + m) = 0) (hp : wpX_beginList post (f_nodeCount, f_innermost, f_draftLength, f_rulesGiven, f_wrongToken, f_wantedCount, f_inCondition, f_depth, 223, f_outcome, f_outputCount, f_stepsTaken, a_names, a_values, a_parents, a_kinds, a_operands, a_priorities, a_givenAt, a_wanted, a_axes, a_passing, a_ends, a_openers, a_table, a_results, a_matched, a_listLeft, a_listNode, a_listPosition, a_listSize, a_listBody, a_listReturn, a_outputs) (a_axes (24 + m)) (-1) 223) : wpX_handle post (f_nodeCount, f_innermost, f_draftLength, f_rulesGiven, f_wrongToken, f_wantedCount, f_inCondition, f_depth, f_cursor, f_outcome, f_outputCount, f_stepsTaken, a_names, a_values, a_parents, a_kinds, a_operands, a_priorities, a_givenAt, a_wanted, a_axes, a_passing, a_ends, a_openers, a_table, a_results, a_matched, a_listLeft, a_listNode, a_listPosition, a_listSize, a_listBody, a_listReturn, a_outputs) (nI m) := by
  have e24 : (24 : Int32) + nI m = nI (24 + m) := nI_add 24 m
  unfold wpX_handle
  refine xo_best hm ?_
  rw [hb]
  exact ⟨by rw [e24]; exact vp_in_nI (by omega) (by omega), nm_r (e' := a_axes (24 + m)) (by rw [e24, nI_clamp (by omega)]) (br_t (by decide) (br_f hc hp))⟩
theorem xt_adv0 {post : SX → Prop} {e : Nat} (he : e < 12) (h0 : a_listLeft e = 0) (hp : post (f_nodeCount, f_innermost, f_draftLength, f_rulesGiven, f_wrongToken, f_wantedCount, f_inCondition, nI e, a_listReturn e, f_outcome, f_outputCount, f_stepsTaken, a_names, a_values, a_parents, a_kinds, a_operands, a_priorities, a_givenAt, a_wanted, a_axes, a_passing, a_ends, a_openers, a_table, a_results, a_matched, a_listLeft, a_listNode, a_listPosition, a_listSize, a_listBody, a_listReturn, a_outputs)) : wpX_advance post (f_nodeCount, f_innermost, f_draftLength, f_rulesGiven, f_wrongToken, f_wantedCount, f_inCondition, nI (e + 1), f_cursor, f_outcome, f_outputCount, f_stepsTaken, a_names, a_values, a_parents, a_kinds, a_operands, a_priorities, a_givenAt, a_wanted, a_axes, a_passing, a_ends, a_openers, a_table, a_results, a_matched, a_listLeft, a_listNode, a_listPosition, a_listSize, a_listBody, a_listReturn, a_outputs) := by
  have ce : (nI e).toNatClampNeg = e := nI_clamp (by omega)
  have ve : vp_in (nI e) 12 := vp_in_nI he (by omega)
  refine nm_r (nI_pred e) ⟨ve, ?_⟩
  rw [ce]
  exact br_t h0 ⟨ve, nm_e (nm_r (nI_pred e) hp)⟩
theorem xt_advL {post : SX → Prop} {e : Nat} (he : e < 12) (h0 : ¬ a_listLeft e = 0) (hp : post (f_nodeCount, f_innermost, f_draftLength, f_rulesGiven, f_wrongToken, f_wantedCount, f_inCondition, nI (e + 1), f_cursor, 1, f_outputCount, nI 150, a_names, a_values, a_parents, a_kinds, a_operands, a_priorities, a_givenAt, a_wanted, a_axes, a_passing, a_ends, a_openers, a_table, a_results, a_matched, a_listLeft, a_listNode, a_listPosition, a_listSize, a_listBody, a_listReturn, a_outputs)) : wpX_advance post (f_nodeCount, f_innermost, f_draftLength, f_rulesGiven, f_wrongToken, f_wantedCount, f_inCondition, nI (e + 1), f_cursor, f_outcome, f_outputCount, nI 150, a_names, a_values, a_parents, a_kinds, a_operands, a_priorities, a_givenAt, a_wanted, a_axes, a_passing, a_ends, a_openers, a_table, a_results, a_matched, a_listLeft, a_listNode, a_listPosition, a_listSize, a_listBody, a_listReturn, a_outputs) := by
  have ce : (nI e).toNatClampNeg = e := nI_clamp (by omega)
  have ve : vp_in (nI e) 12 := vp_in_nI he (by omega)
  refine nm_r (nI_pred e) ⟨ve, ?_⟩
  rw [ce]
  exact br_f h0 (br_f (by decide) hp)
theorem xt_advN {post : SX → Prop} {e st f : Nat} (he : e < 12) (h0 : ¬ a_listLeft e = 0) (hst : st < 150) (hf : me_low (a_listLeft e) f)
    (hB : ¬ a_listBody e = -1 → post (f_nodeCount, f_innermost, f_draftLength, f_rulesGiven, f_wrongToken, f_wantedCount, f_inCondition, nI (e + 1), a_listBody e, f_outcome, f_outputCount, nI (st + 1), a_names, a_values, a_parents, a_kinds, a_operands, a_priorities, a_givenAt, a_wanted, a_axes, a_passing, a_ends, a_openers, a_table, a_results, a_matched, upd a_listLeft e (a_listLeft e &&& (a_listLeft e - 1)), upd a_listNode e (nI f), upd a_listPosition e (a_listPosition e + 1), a_listSize, a_listBody, a_listReturn, a_outputs))
    (hR : a_listBody e = -1 → wpX_handle post (f_nodeCount, f_innermost, f_draftLength, f_rulesGiven, f_wrongToken, f_wantedCount, f_inCondition, nI (e + 1), f_cursor, f_outcome, f_outputCount, nI (st + 1), a_names, a_values, a_parents, a_kinds, a_operands, a_priorities, a_givenAt, a_wanted, a_axes, a_passing, a_ends, a_openers, a_table, a_results, a_matched, upd a_listLeft e (a_listLeft e &&& (a_listLeft e - 1)), upd a_listNode e (nI f), upd a_listPosition e (a_listPosition e + 1), a_listSize, a_listBody, a_listReturn, a_outputs) (nI f)) :
    wpX_advance post (f_nodeCount, f_innermost, f_draftLength, f_rulesGiven, f_wrongToken, f_wantedCount, f_inCondition, nI (e + 1), f_cursor, f_outcome, f_outputCount, nI st, a_names, a_values, a_parents, a_kinds, a_operands, a_priorities, a_givenAt, a_wanted, a_axes, a_passing, a_ends, a_openers, a_table, a_results, a_matched, a_listLeft, a_listNode, a_listPosition, a_listSize, a_listBody, a_listReturn, a_outputs) := by
  have ce : (nI e).toNatClampNeg = e := nI_clamp (by omega)
  have ve : vp_in (nI e) 12 := vp_in_nI he (by omega)
  refine nm_r (nI_pred e) ⟨ve, ?_⟩
  rw [ce]
  refine br_f h0 (br_t (nI_lt (b := 150) hst (by omega)) (nm_r (nI_1 st) ⟨ve, xw_firstOf hf ⟨ve, nm_e ⟨ve, ve, ve, nm_e ⟨ve, ve, nm_e ⟨ve, br_c (fun q => ⟨ve, ?_⟩) (fun q => ⟨ve, nm_e (hB q)⟩)⟩⟩⟩⟩⟩))
  rw [pk_us]
  exact hR q
end
section
variable {g_nodes g_inner g_rules g_place g_listed g_depth g_row g_pc g_node g_position g_size g_fault g_put g_steps : Int32} {b_name b_parent b_value b_kind b_with b_count b_bodyAt b_priority b_given b_there b_wanted b_waiting b_within b_list b_left b_reached b_sizes b_each b_backRow b_backPc b_backNode b_backPosition b_backSize b_output : Nat → Int32}
theorem yt_put {post : SY → Prop} {oc : Nat} {v : Int32} (h : oc < 2 ^ 30) (hp : post (g_nodes, g_inner, g_rules, g_place, g_listed, g_depth, g_row, g_pc, g_node, g_position, g_size, g_fault, nI (oc + 1), g_steps, b_name, b_parent, b_value, b_kind, b_with, b_count, b_bodyAt, b_priority, b_given, b_there, b_wanted, b_waiting, b_within, b_list, b_left, b_reached, b_sizes, b_each, b_backRow, b_backPc, b_backNode, b_backPosition, b_backSize, tf_o b_output oc v)) : wpY_emit post (g_nodes, g_inner, g_rules, g_place, g_listed, g_depth, g_row, g_pc, g_node, g_position, g_size, g_fault, nI oc, g_steps, b_name, b_parent, b_value, b_kind, b_with, b_count, b_bodyAt, b_priority, b_given, b_there, b_wanted, b_waiting, b_within, b_list, b_left, b_reached, b_sizes, b_each, b_backRow, b_backPc, b_backNode, b_backPosition, b_backSize, b_output) v := by
  unfold tf_o at hp
  by_cases q : oc < 60
  · rw [if_pos q] at hp
    exact br_f (nI_ge (b := 60) q (by omega)) ⟨vp_in_nI q (by omega), nm_r (e' := upd b_output oc v) (by rw [nI_clamp (by omega)]) (nm_r (nI_1 oc) hp)⟩
  · rw [if_neg q] at hp
    exact br_t (nI_le (a := 60) (by omega) (by omega)) (nm_r (nI_1 oc) hp)
theorem yt_beginT {post : SY → Prop} {d n : Nat} {x b : Int32} (hn : n ≤ 24) (hd : d < 12) (hp : post (nI n, g_inner, g_rules, g_place, g_listed, nI (d + 1), -1, g_pc, g_node, g_position, g_size, g_fault, g_put, g_steps, b_name, b_parent, b_value, b_kind, b_with, b_count, b_bodyAt, b_priority, b_given, b_there, b_wanted, b_waiting, b_within, b_list, upd b_left d x, upd b_reached d 0, upd b_sizes d (nI (nu_cnt x n)), upd b_each d b, upd b_backRow d g_row, upd b_backPc d g_pc, upd b_backNode d g_node, upd b_backPosition d g_position, upd b_backSize d g_size, b_output)) : wpY_begin post (nI n, g_inner, g_rules, g_place, g_listed, nI d, g_row, g_pc, g_node, g_position, g_size, g_fault, g_put, g_steps, b_name, b_parent, b_value, b_kind, b_with, b_count, b_bodyAt, b_priority, b_given, b_there, b_wanted, b_waiting, b_within, b_list, b_left, b_reached, b_sizes, b_each, b_backRow, b_backPc, b_backNode, b_backPosition, b_backSize, b_output) x b := by
  have cd : (nI d).toNatClampNeg = d := nI_clamp (by omega)
  have vd : vp_in (nI d) 13 := vp_in_nI (by omega) (by omega)
  refine br_f (fun z => ?_) ⟨vd, nm_r (e' := upd b_left d x) (by rw [cd]) ⟨vd, nm_r (e' := upd b_reached d 0) (by rw [cd]) (yw_told (t := 4) hn (by omega) ⟨vd, nm_r (e' := upd b_sizes d (nI (nu_cnt x n))) (by rw [cd]; rfl) ⟨vd, nm_r (e' := upd b_each d b) (by rw [cd]) ⟨vd, nm_r (e' := upd b_backRow d g_row) (by rw [cd]) ⟨vd, nm_r (e' := upd b_backPc d g_pc) (by rw [cd]) ⟨vd, nm_r (e' := upd b_backNode d g_node) (by rw [cd]) ⟨vd, nm_r (e' := upd b_backPosition d g_position) (by rw [cd]) ⟨vd, nm_r (e' := upd b_backSize d g_size) (by rw [cd]) (nm_r (nI_1 d) hp)⟩⟩⟩⟩⟩⟩⟩)⟩⟩
  have := (nI_eq (b := 12) (by omega) (by omega)).mp z
  omega
theorem yt_beginF {post : SY → Prop} {d : Nat} {x b : Int32} (hd : d = 12) (hp : post (g_nodes, g_inner, g_rules, g_place, g_listed, nI d, g_row, g_pc, g_node, g_position, g_size, 2, g_put, g_steps, b_name, b_parent, b_value, b_kind, b_with, b_count, b_bodyAt, b_priority, b_given, b_there, b_wanted, b_waiting, b_within, b_list, b_left, b_reached, b_sizes, b_each, b_backRow, b_backPc, b_backNode, b_backPosition, b_backSize, b_output)) : wpY_begin post (g_nodes, g_inner, g_rules, g_place, g_listed, nI d, g_row, g_pc, g_node, g_position, g_size, g_fault, g_put, g_steps, b_name, b_parent, b_value, b_kind, b_with, b_count, b_bodyAt, b_priority, b_given, b_there, b_wanted, b_waiting, b_within, b_list, b_left, b_reached, b_sizes, b_each, b_backRow, b_backPc, b_backNode, b_backPosition, b_backSize, b_output) x b :=
  br_t (by rw [hd]; rfl) hp
theorem yt_next0 {post : SY → Prop} {e : Nat} (he : e < 12) (h0 : b_left e = 0) (hp : post (g_nodes, g_inner, g_rules, g_place, g_listed, nI e, b_backRow e, b_backPc e, b_backNode e, b_backPosition e, b_backSize e, g_fault, g_put, g_steps, b_name, b_parent, b_value, b_kind, b_with, b_count, b_bodyAt, b_priority, b_given, b_there, b_wanted, b_waiting, b_within, b_list, b_left, b_reached, b_sizes, b_each, b_backRow, b_backPc, b_backNode, b_backPosition, b_backSize, b_output)) : wpY_nextNode post (g_nodes, g_inner, g_rules, g_place, g_listed, nI (e + 1), g_row, g_pc, g_node, g_position, g_size, g_fault, g_put, g_steps, b_name, b_parent, b_value, b_kind, b_with, b_count, b_bodyAt, b_priority, b_given, b_there, b_wanted, b_waiting, b_within, b_list, b_left, b_reached, b_sizes, b_each, b_backRow, b_backPc, b_backNode, b_backPosition, b_backSize, b_output) := by
  have ce : (nI e).toNatClampNeg = e := nI_clamp (by omega)
  have ve : vp_in (nI e) 13 := vp_in_nI (by omega) (by omega)
  refine nm_r (nI_pred e) ⟨ve, ?_⟩
  rw [ce]
  exact br_t h0 (nm_r (nI_pred e) ⟨ve, nm_e ⟨ve, nm_e ⟨ve, nm_e ⟨ve, nm_e ⟨ve, nm_e hp⟩⟩⟩⟩⟩)
theorem yt_nextL {post : SY → Prop} {e : Nat} (he : e < 12) (h0 : ¬ b_left e = 0) (hp : post (g_nodes, g_inner, g_rules, g_place, g_listed, nI (e + 1), g_row, g_pc, g_node, g_position, g_size, 1, g_put, nI 150, b_name, b_parent, b_value, b_kind, b_with, b_count, b_bodyAt, b_priority, b_given, b_there, b_wanted, b_waiting, b_within, b_list, b_left, b_reached, b_sizes, b_each, b_backRow, b_backPc, b_backNode, b_backPosition, b_backSize, b_output)) : wpY_nextNode post (g_nodes, g_inner, g_rules, g_place, g_listed, nI (e + 1), g_row, g_pc, g_node, g_position, g_size, g_fault, g_put, nI 150, b_name, b_parent, b_value, b_kind, b_with, b_count, b_bodyAt, b_priority, b_given, b_there, b_wanted, b_waiting, b_within, b_list, b_left, b_reached, b_sizes, b_each, b_backRow, b_backPc, b_backNode, b_backPosition, b_backSize, b_output) := by
  have ce : (nI e).toNatClampNeg = e := nI_clamp (by omega)
  have ve : vp_in (nI e) 13 := vp_in_nI (by omega) (by omega)
  refine nm_r (nI_pred e) ⟨ve, ?_⟩
  rw [ce]
  exact br_f h0 (br_t (by decide) hp)
theorem yt_105 {post : SY → Prop} {e f : Nat} (he : e < 12) (hf : me_low (b_left e) f)
    (hB : ¬ b_each e < 0 → post (g_nodes, g_inner, g_rules, g_place, g_listed, g_depth, b_backRow e, b_each e, nI f, b_reached e + 1, b_sizes e, g_fault, g_put, g_steps, b_name, b_parent, b_value, b_kind, b_with, b_count, b_bodyAt, b_priority, b_given, b_there, b_wanted, b_waiting, b_within, b_list, upd b_left e (b_left e &&& (((1 : Int32) <<< (nI f &&& 31)) ^^^ (-1))), upd b_reached e (b_reached e + 1), b_sizes, b_each, b_backRow, b_backPc, b_backNode, b_backPosition, b_backSize, b_output))
    (hR : b_each e < 0 → wpY_handle (fun u => match u with | (g_nodes_1, g_inner_1, g_rules_1, g_place_1, g_listed_1, g_depth_1, g_row_1, g_pc_1, g_node_1, g_position_1, g_size_1, g_fault_1, g_put_1, g_steps_1, b_name_1, b_parent_1, b_value_1, b_kind_1, b_with_1, b_count_1, b_bodyAt_1, b_priority_1, b_given_1, b_there_1, b_wanted_1, b_waiting_1, b_within_1, b_list_1, b_left_1, b_reached_1, b_sizes_1, b_each_1, b_backRow_1, b_backPc_1, b_backNode_1, b_backPosition_1, b_backSize_1, b_output_1) => (0 ≤ g_row_1 → wY_nextNode_193 post (nI e) (nI f) g_nodes_1 g_inner_1 g_rules_1 g_place_1 g_listed_1 g_depth_1 g_row_1 g_pc_1 g_node_1 g_position_1 g_size_1 g_fault_1 g_put_1 g_steps_1 b_name_1 b_parent_1 b_value_1 b_kind_1 b_with_1 b_count_1 b_bodyAt_1 b_priority_1 b_given_1 b_there_1 b_wanted_1 b_waiting_1 b_within_1 b_list_1 b_left_1 b_reached_1 b_sizes_1 b_each_1 b_backRow_1 b_backPc_1 b_backNode_1 b_backPosition_1 b_backSize_1 b_output_1) ∧ (¬ 0 ≤ g_row_1 → post (g_nodes_1, g_inner_1, g_rules_1, g_place_1, g_listed_1, g_depth_1, g_row_1, g_pc_1, g_node_1, g_position_1, g_size_1, g_fault_1, g_put_1, g_steps_1, b_name_1, b_parent_1, b_value_1, b_kind_1, b_with_1, b_count_1, b_bodyAt_1, b_priority_1, b_given_1, b_there_1, b_wanted_1, b_waiting_1, b_within_1, b_list_1, b_left_1, b_reached_1, b_sizes_1, b_each_1, b_backRow_1, b_backPc_1, b_backNode_1, b_backPosition_1, b_backSize_1, b_output_1))) (g_nodes, g_inner, g_rules, g_place, g_listed, g_depth, g_row, g_pc, g_node, g_position, g_size, g_fault, g_put, g_steps, b_name, b_parent, b_value, b_kind, b_with, b_count, b_bodyAt, b_priority, b_given, b_there, b_wanted, b_waiting, b_within, b_list, upd b_left e (b_left e &&& (((1 : Int32) <<< (nI f &&& 31)) ^^^ (-1))), upd b_reached e (b_reached e + 1), b_sizes, b_each, b_backRow, b_backPc, b_backNode, b_backPosition, b_backSize, b_output) (nI f)) :
    ∀ d i g, i + d = f → d < g → wY_nextNode_105 post (nI e) g_nodes g_inner g_rules g_place g_listed g_depth g_row g_pc g_node g_position g_size g_fault g_put g_steps b_name b_parent b_value b_kind b_with b_count b_bodyAt b_priority b_given b_there b_wanted b_waiting b_within b_list b_left b_reached b_sizes b_each b_backRow b_backPc b_backNode b_backPosition b_backSize b_output g (nI i) := by
  have ce : (nI e).toNatClampNeg = e := nI_clamp (by omega)
  have ve : vp_in (nI e) 13 := vp_in_nI (by omega) (by omega)
  have f24 := hf.1
  intro d
  induction d with
  | zero =>
    intro i g hi hg
    obtain ⟨g, rfl⟩ : ∃ x, g = x + 1 := ⟨g - 1, by omega⟩
    have e' : i = f := by omega
    subst e'
    refine ⟨ve, ?_⟩
    rw [ce]
    refine br_f (ms_t (by omega) hf.2.1) ⟨ve, ve, nm_e ⟨ve, ve, nm_e ⟨ve, br_c (fun q => hR q) (fun q => ⟨ve, nm_e ⟨ve, nm_e ⟨ve, nm_r (e' := b_reached e + 1) (by rw [ce, pk_us]) ⟨ve, nm_r (e' := b_sizes e) (by rw [ce]) (hB q)⟩⟩⟩⟩)⟩⟩⟩
  | succ d ih =>
    intro i g hi hg
    obtain ⟨g, rfl⟩ : ∃ x, g = x + 1 := ⟨g - 1, by omega⟩
    refine ⟨ve, ?_⟩
    rw [ce]
    exact br_t (ms_f (by omega) (hf.2.2 i (by omega))) (nm_r (nI_1 i) (ih (i + 1) g (by omega) (by omega)))
theorem yt_nextN {post : SY → Prop} {e st f : Nat} (he : e < 12) (h0 : ¬ b_left e = 0) (hst : st < 150) (hf : me_low (b_left e) f)
    (hB : ¬ b_each e < 0 → post (g_nodes, g_inner, g_rules, g_place, g_listed, nI (e + 1), b_backRow e, b_each e, nI f, b_reached e + 1, b_sizes e, g_fault, g_put, nI (st + 1), b_name, b_parent, b_value, b_kind, b_with, b_count, b_bodyAt, b_priority, b_given, b_there, b_wanted, b_waiting, b_within, b_list, upd b_left e (b_left e &&& (((1 : Int32) <<< (nI f &&& 31)) ^^^ (-1))), upd b_reached e (b_reached e + 1), b_sizes, b_each, b_backRow, b_backPc, b_backNode, b_backPosition, b_backSize, b_output))
    (hR : b_each e < 0 → wpY_handle (fun u => match u with | (g_nodes_1, g_inner_1, g_rules_1, g_place_1, g_listed_1, g_depth_1, g_row_1, g_pc_1, g_node_1, g_position_1, g_size_1, g_fault_1, g_put_1, g_steps_1, b_name_1, b_parent_1, b_value_1, b_kind_1, b_with_1, b_count_1, b_bodyAt_1, b_priority_1, b_given_1, b_there_1, b_wanted_1, b_waiting_1, b_within_1, b_list_1, b_left_1, b_reached_1, b_sizes_1, b_each_1, b_backRow_1, b_backPc_1, b_backNode_1, b_backPosition_1, b_backSize_1, b_output_1) => (0 ≤ g_row_1 → wY_nextNode_193 post (nI e) (nI f) g_nodes_1 g_inner_1 g_rules_1 g_place_1 g_listed_1 g_depth_1 g_row_1 g_pc_1 g_node_1 g_position_1 g_size_1 g_fault_1 g_put_1 g_steps_1 b_name_1 b_parent_1 b_value_1 b_kind_1 b_with_1 b_count_1 b_bodyAt_1 b_priority_1 b_given_1 b_there_1 b_wanted_1 b_waiting_1 b_within_1 b_list_1 b_left_1 b_reached_1 b_sizes_1 b_each_1 b_backRow_1 b_backPc_1 b_backNode_1 b_backPosition_1 b_backSize_1 b_output_1) ∧ (¬ 0 ≤ g_row_1 → post (g_nodes_1, g_inner_1, g_rules_1, g_place_1, g_listed_1, g_depth_1, g_row_1, g_pc_1, g_node_1, g_position_1, g_size_1, g_fault_1, g_put_1, g_steps_1, b_name_1, b_parent_1, b_value_1, b_kind_1, b_with_1, b_count_1, b_bodyAt_1, b_priority_1, b_given_1, b_there_1, b_wanted_1, b_waiting_1, b_within_1, b_list_1, b_left_1, b_reached_1, b_sizes_1, b_each_1, b_backRow_1, b_backPc_1, b_backNode_1, b_backPosition_1, b_backSize_1, b_output_1))) (g_nodes, g_inner, g_rules, g_place, g_listed, nI (e + 1), g_row, g_pc, g_node, g_position, g_size, g_fault, g_put, nI (st + 1), b_name, b_parent, b_value, b_kind, b_with, b_count, b_bodyAt, b_priority, b_given, b_there, b_wanted, b_waiting, b_within, b_list, upd b_left e (b_left e &&& (((1 : Int32) <<< (nI f &&& 31)) ^^^ (-1))), upd b_reached e (b_reached e + 1), b_sizes, b_each, b_backRow, b_backPc, b_backNode, b_backPosition, b_backSize, b_output) (nI f)) :
    wpY_nextNode post (g_nodes, g_inner, g_rules, g_place, g_listed, nI (e + 1), g_row, g_pc, g_node, g_position, g_size, g_fault, g_put, nI st, b_name, b_parent, b_value, b_kind, b_with, b_count, b_bodyAt, b_priority, b_given, b_there, b_wanted, b_waiting, b_within, b_list, b_left, b_reached, b_sizes, b_each, b_backRow, b_backPc, b_backNode, b_backPosition, b_backSize, b_output) := by
  have ce : (nI e).toNatClampNeg = e := nI_clamp (by omega)
  have ve : vp_in (nI e) 13 := vp_in_nI (by omega) (by omega)
  have f24 := hf.1
  refine nm_r (nI_pred e) ⟨ve, ?_⟩
  rw [ce]
  refine br_f h0 (br_f (fun z => ?_) (nm_r (nI_1 st) ⟨f + 1, yt_105 he hf hB hR f 0 (f + 1) (by omega) (by omega)⟩))
  have := (nI_eq (b := 150) (by omega) (by omega)).mp z
  omega
end
