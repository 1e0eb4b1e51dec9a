/-! the class: numbers, conditions -/
variable {f_nodeCount f_innermost f_draftLength f_rulesGiven f_wrongToken f_wantedCount f_inCondition f_depth f_cursor f_outcome f_outputCount f_stepsTaken : Int32} {a_names a_values a_parents a_kinds a_operands a_priorities a_givenAt a_wanted a_axes a_passing a_ends a_openers a_table a_results a_matched a_listLeft a_listNode a_listPosition a_listSize a_listBody a_listReturn a_outputs : Nat → Int32}
theorem nc_7 {post : Int32 → Prop} {x y : Int32} (h : post (nu_c 7 x y)) : post (x + y) := h
theorem nc_8 {post : Int32 → Prop} {x y : Int32} (h : post (nu_c 8 x y)) : post (x - y) := h
theorem nc_9 {post : Int32 → Prop} {x y : Int32} (h : post (nu_c 9 x y)) : post (x * y) := h
theorem nc_10 {post : Int32 → Prop} {x y : Int32} (h : post (nu_c 10 x y)) : (y ≤ x → post 0) ∧ (¬ y ≤ x → post 1) := by
  have e : nu_c 10 x y = if x < y then 1 else 0 := rfl
  rw [e] at h
  refine ⟨fun z => ?_, fun z => ?_⟩
  · rw [if_neg (Int32.not_lt.mpr z)] at h; exact h
  · rw [if_pos (Int32.not_le.mp z)] at h; exact h
theorem nc_11 {post : Int32 → Prop} {x y : Int32} (h : post (nu_c 11 x y)) : (x = y → post 1) ∧ (¬ x = y → post 0) := by
  have e : nu_c 11 x y = if x = y then 1 else 0 := rfl
  rw [e] at h
  refine ⟨fun z => ?_, fun z => ?_⟩
  · rw [if_pos z] at h; exact h
  · rw [if_neg z] at h; exact h
theorem nc_12 {post : Int32 → Prop} {x y : Int32} (h : post (nu_c 12 x y)) : (x = 0 → post 0) ∧ (¬ x = 0 → ((y = 0 → post 0) ∧ (¬ y = 0 → post 1))) := by
  have e : nu_c 12 x y = if x ≠ 0 ∧ y ≠ 0 then 1 else 0 := rfl
  rw [e] at h
  refine ⟨fun z => ?_, fun z => ⟨fun q => ?_, fun q => ?_⟩⟩
  · rw [if_neg (fun t => t.1 z)] at h; exact h
  · rw [if_neg (fun t => t.2 q)] at h; exact h
  · rw [if_pos ⟨z, q⟩] at h; exact h
theorem nc_13 {post : Int32 → Prop} {x y : Int32} (h : post (nu_c 13 x y)) : (x = 0 → ((y = 0 → post 0) ∧ (¬ y = 0 → post 1))) ∧ (¬ x = 0 → post 1) := by
  have e : nu_c 13 x y = if x ≠ 0 ∨ y ≠ 0 then 1 else 0 := rfl
  rw [e] at h
  refine ⟨fun z => ⟨fun q => ?_, fun q => ?_⟩, fun z => ?_⟩
  · rw [if_neg (fun t => t.elim (fun a => a z) (fun a => a q))] at h; exact h
  · rw [if_pos (Or.inr q)] at h; exact h
  · rw [if_pos (Or.inl z)] at h; exact h
theorem xw_i1 {a : Nat} (h : a + 1 < 224) : vp_in (nI a + 1) 224 := by rw [nI_1]; exact vp_in_nI h (by omega)
theorem xw_c1 {a : Nat} (h : a + 1 < 224) : (nI a + 1).toNatClampNeg = a + 1 := by rw [nI_1]; exact nI_clamp (by omega)
theorem xw_res0 {post : Int32 → Prop} {a m : Nat} {ps sz : Int32} (ha : a < 224) (hk : a_kinds a = nI 0) (hp : post (a_operands a)) : wpX_resultAt post (f_nodeCount, f_innermost, f_draftLength, f_rulesGiven, f_wrongToken, f_wantedCount, f_inCondition, f_depth, f_cursor, f_outcome, f_outputCount, f_stepsTaken, a_names, a_values, a_parents, a_kinds, a_operands, a_priorities, a_givenAt, a_wanted, a_axes, a_passing, a_ends, a_openers, a_table, a_results, a_matched, a_listLeft, a_listNode, a_listPosition, a_listSize, a_listBody, a_listReturn, a_outputs) (nI a) (nI m) ps sz :=
  ⟨vp_in_nI ha (by omega), nm_r (e' := nI 0) (by rw [nI_clamp (by omega)]; exact hk) (br_f (by decide) (br_f (by decide) (br_t (by decide) (⟨vp_in_nI ha (by omega), by rw [nI_clamp (by omega)]; exact hp⟩))))⟩
theorem xw_res1 {post : Int32 → Prop} {a m : Nat} {ps sz : Int32} (ha : a < 224) (hk : a_kinds a = nI 1) (hp : post ps) : wpX_resultAt post (f_nodeCount, f_innermost, f_draftLength, f_rulesGiven, f_wrongToken, f_wantedCount, f_inCondition, f_depth, f_cursor, f_outcome, f_outputCount, f_stepsTaken, a_names, a_values, a_parents, a_kinds, a_operands, a_priorities, a_givenAt, a_wanted, a_axes, a_passing, a_ends, a_openers, a_table, a_results, a_matched, a_listLeft, a_listNode, a_listPosition, a_listSize, a_listBody, a_listReturn, a_outputs) (nI a) (nI m) ps sz :=
  ⟨vp_in_nI ha (by omega), nm_r (e' := nI 1) (by rw [nI_clamp (by omega)]; exact hk) (br_f (by decide) (br_f (by decide) (br_f (by decide) (br_t (by decide) (hp)))))⟩
theorem xw_res2 {post : Int32 → Prop} {a m : Nat} {ps sz : Int32} (ha : a < 224) (hk : a_kinds a = nI 2) (hp : post sz) : wpX_resultAt post (f_nodeCount, f_innermost, f_draftLength, f_rulesGiven, f_wrongToken, f_wantedCount, f_inCondition, f_depth, f_cursor, f_outcome, f_outputCount, f_stepsTaken, a_names, a_values, a_parents, a_kinds, a_operands, a_priorities, a_givenAt, a_wanted, a_axes, a_passing, a_ends, a_openers, a_table, a_results, a_matched, a_listLeft, a_listNode, a_listPosition, a_listSize, a_listBody, a_listReturn, a_outputs) (nI a) (nI m) ps sz :=
  ⟨vp_in_nI ha (by omega), nm_r (e' := nI 2) (by rw [nI_clamp (by omega)]; exact hk) (br_f (by decide) (br_f (by decide) (br_f (by decide) (br_f (by decide) (br_t (by decide) (hp))))))⟩
theorem xw_res3 {post : Int32 → Prop} {a m : Nat} {ps sz : Int32} (ha : a < 224) (hk : a_kinds a = nI 3) (hm : m < 24) (hp : post (a_values m)) : wpX_resultAt post (f_nodeCount, f_innermost, f_draftLength, f_rulesGiven, f_wrongToken, f_wantedCount, f_inCondition, f_depth, f_cursor, f_outcome, f_outputCount, f_stepsTaken, a_names, a_values, a_parents, a_kinds, a_operands, a_priorities, a_givenAt, a_wanted, a_axes, a_passing, a_ends, a_openers, a_table, a_results, a_matched, a_listLeft, a_listNode, a_listPosition, a_listSize, a_listBody, a_listReturn, a_outputs) (nI a) (nI m) ps sz :=
  ⟨vp_in_nI ha (by omega), nm_r (e' := nI 3) (by rw [nI_clamp (by omega)]; exact hk) (br_f (by decide) (br_f (by decide) (br_f (by decide) (br_f (by decide) (br_f (by decide) (br_t (by decide) (⟨vp_in_nI hm (by omega), by rw [nI_clamp (by omega)]; exact hp⟩)))))))⟩
theorem xw_res4 {post : Int32 → Prop} {a m : Nat} {ps sz : Int32} (ha : a < 224) (hk : a_kinds a = nI 4) (hm : m < 24) (hp : post (a_table (a * 24 + m))) : wpX_resultAt post (f_nodeCount, f_innermost, f_draftLength, f_rulesGiven, f_wrongToken, f_wantedCount, f_inCondition, f_depth, f_cursor, f_outcome, f_outputCount, f_stepsTaken, a_names, a_values, a_parents, a_kinds, a_operands, a_priorities, a_givenAt, a_wanted, a_axes, a_passing, a_ends, a_openers, a_table, a_results, a_matched, a_listLeft, a_listNode, a_listPosition, a_listSize, a_listBody, a_listReturn, a_outputs) (nI a) (nI m) ps sz :=
  ⟨vp_in_nI ha (by omega), nm_r (e' := nI 4) (by rw [nI_clamp (by omega)]; exact hk) (br_f (by decide) (br_f (by decide) (br_f (by decide) (br_f (by decide) (br_f (by decide) (br_f (by decide) (br_t (by decide) (⟨by rw [xw_ix]; exact vp_in_nI (by omega) (by omega), by rw [xw_ix, nI_clamp (by omega)]; exact hp⟩))))))))⟩
theorem xw_res5 {post : Int32 → Prop} {a m : Nat} {ps sz : Int32} (ha : a < 224) (hk : a_kinds a = nI 5) (hm : m < 24) (hp : post (a_table (a * 24 + m))) : wpX_resultAt post (f_nodeCount, f_innermost, f_draftLength, f_rulesGiven, f_wrongToken, f_wantedCount, f_inCondition, f_depth, f_cursor, f_outcome, f_outputCount, f_stepsTaken, a_names, a_values, a_parents, a_kinds, a_operands, a_priorities, a_givenAt, a_wanted, a_axes, a_passing, a_ends, a_openers, a_table, a_results, a_matched, a_listLeft, a_listNode, a_listPosition, a_listSize, a_listBody, a_listReturn, a_outputs) (nI a) (nI m) ps sz :=
  ⟨vp_in_nI ha (by omega), nm_r (e' := nI 5) (by rw [nI_clamp (by omega)]; exact hk) (br_f (by decide) (br_f (by decide) (br_f (by decide) (br_f (by decide) (br_f (by decide) (br_f (by decide) (br_f (by decide) (br_t (by decide) (⟨by rw [xw_ix]; exact vp_in_nI (by omega) (by omega), by rw [xw_ix, nI_clamp (by omega)]; exact hp⟩)))))))))⟩
theorem xw_res6 {post : Int32 → Prop} {a m : Nat} {ps sz : Int32} (ha : a < 224) (hk : a_kinds a = nI 6) (hm : m < 24) (hp : post (a_table (a * 24 + m))) : wpX_resultAt post (f_nodeCount, f_innermost, f_draftLength, f_rulesGiven, f_wrongToken, f_wantedCount, f_inCondition, f_depth, f_cursor, f_outcome, f_outputCount, f_stepsTaken, a_names, a_values, a_parents, a_kinds, a_operands, a_priorities, a_givenAt, a_wanted, a_axes, a_passing, a_ends, a_openers, a_table, a_results, a_matched, a_listLeft, a_listNode, a_listPosition, a_listSize, a_listBody, a_listReturn, a_outputs) (nI a) (nI m) ps sz :=
  ⟨vp_in_nI ha (by omega), nm_r (e' := nI 6) (by rw [nI_clamp (by omega)]; exact hk) (br_f (by decide) (br_f (by decide) (br_f (by decide) (br_f (by decide) (br_f (by decide) (br_f (by decide) (br_f (by decide) (br_f (by decide) (br_t (by decide) (⟨by rw [xw_ix]; exact vp_in_nI (by omega) (by omega), by rw [xw_ix, nI_clamp (by omega)]; exact hp⟩))))))))))⟩
theorem xw_bin {post : Int32 → Prop} {a e k : Nat} (ha : a + 1 < 224) (he : a_ends (a + 1) = nI e) (h2 : e < 224) (k7 : 7 ≤ k) (k13 : k ≤ 13) (hp : post (nu_c k (a_results (a + 1)) (a_results e))) : wX_resultAt_132 post (nI a) (nI k) f_nodeCount f_innermost f_draftLength f_rulesGiven f_wrongToken f_wantedCount f_inCondition f_depth f_cursor f_outcome f_outputCount f_stepsTaken a_names a_values a_parents a_kinds a_operands a_priorities a_givenAt a_wanted a_axes a_passing a_ends a_openers a_table a_results a_matched a_listLeft a_listNode a_listPosition a_listSize a_listBody a_listReturn a_outputs := by
  have e1 : a_results (nI a + 1).toNatClampNeg = a_results (a + 1) := by rw [xw_c1 ha]
  have i2 : vp_in (a_ends (nI a + 1).toNatClampNeg) 224 := by rw [xw_c1 ha, he]; exact vp_in_nI h2 (by omega)
  have e2 : a_results (a_ends (nI a + 1).toNatClampNeg).toNatClampNeg = a_results e := by rw [xw_c1 ha, he, nI_clamp (by omega)]
  rcases (show k = 7 ∨ k = 8 ∨ k = 9 ∨ k = 10 ∨ k = 11 ∨ k = 12 ∨ k = 13 by omega) with rfl | rfl | rfl | rfl | rfl | rfl | rfl
  · exact br_f (by decide) (br_t (by decide) ⟨xw_i1 ha, nm_r e1 ⟨xw_i1 ha, i2, nm_r e2 (br_f (by decide) (br_f (by decide) (br_t (by decide) (nc_7 hp))))⟩⟩)
  · exact br_f (by decide) (br_t (by decide) ⟨xw_i1 ha, nm_r e1 ⟨xw_i1 ha, i2, nm_r e2 (br_f (by decide) (br_f (by decide) (br_f (by decide) (br_t (by decide) (nc_8 hp)))))⟩⟩)
  · exact br_f (by decide) (br_t (by decide) ⟨xw_i1 ha, nm_r e1 ⟨xw_i1 ha, i2, nm_r e2 (br_f (by decide) (br_f (by decide) (br_f (by decide) (br_f (by decide) (br_t (by decide) (nc_9 hp))))))⟩⟩)
  · exact br_f (by decide) (br_t (by decide) ⟨xw_i1 ha, nm_r e1 ⟨xw_i1 ha, i2, nm_r e2 (br_f (by decide) (br_f (by decide) (br_f (by decide) (br_f (by decide) (br_f (by decide) (br_t (by decide) (nc_10 hp)))))))⟩⟩)
  · exact br_f (by decide) (br_t (by decide) ⟨xw_i1 ha, nm_r e1 ⟨xw_i1 ha, i2, nm_r e2 (br_f (by decide) (br_f (by decide) (br_f (by decide) (br_f (by decide) (br_f (by decide) (br_f (by decide) (br_t (by decide) (nc_11 hp))))))))⟩⟩)
  · exact br_f (by decide) (br_t (by decide) ⟨xw_i1 ha, nm_r e1 ⟨xw_i1 ha, i2, nm_r e2 (br_f (by decide) (br_f (by decide) (br_f (by decide) (br_f (by decide) (br_f (by decide) (br_f (by decide) (br_f (by decide) (br_t (by decide) (nc_12 hp)))))))))⟩⟩)
  · exact br_f (by decide) (br_t (by decide) ⟨xw_i1 ha, nm_r e1 ⟨xw_i1 ha, i2, nm_r e2 (br_f (by decide) (br_t (by decide) (nc_13 hp)))⟩⟩)
theorem xw_res7 {post : Int32 → Prop} {a m e : Nat} {ps sz : Int32} (ha : a + 1 < 224) (hk : a_kinds a = nI 7) (he : a_ends (a + 1) = nI e) (h2 : e < 224) (hp : post (nu_c 7 (a_results (a + 1)) (a_results e))) : wpX_resultAt post (f_nodeCount, f_innermost, f_draftLength, f_rulesGiven, f_wrongToken, f_wantedCount, f_inCondition, f_depth, f_cursor, f_outcome, f_outputCount, f_stepsTaken, a_names, a_values, a_parents, a_kinds, a_operands, a_priorities, a_givenAt, a_wanted, a_axes, a_passing, a_ends, a_openers, a_table, a_results, a_matched, a_listLeft, a_listNode, a_listPosition, a_listSize, a_listBody, a_listReturn, a_outputs) (nI a) (nI m) ps sz :=
  ⟨vp_in_nI (by omega) (by omega), nm_r (e' := nI 7) (by rw [nI_clamp (by omega)]; exact hk) (br_f (by decide) (br_f (by decide) (br_f (by decide) (br_f (by decide) (br_f (by decide) (br_f (by decide) (br_f (by decide) (br_f (by decide) (br_f (by decide) (br_t (by decide) (xw_bin ha he h2 (by decide) (by decide) hp)))))))))))⟩
theorem xw_res8 {post : Int32 → Prop} {a m e : Nat} {ps sz : Int32} (ha : a + 1 < 224) (hk : a_kinds a = nI 8) (he : a_ends (a + 1) = nI e) (h2 : e < 224) (hp : post (nu_c 8 (a_results (a + 1)) (a_results e))) : wpX_resultAt post (f_nodeCount, f_innermost, f_draftLength, f_rulesGiven, f_wrongToken, f_wantedCount, f_inCondition, f_depth, f_cursor, f_outcome, f_outputCount, f_stepsTaken, a_names, a_values, a_parents, a_kinds, a_operands, a_priorities, a_givenAt, a_wanted, a_axes, a_passing, a_ends, a_openers, a_table, a_results, a_matched, a_listLeft, a_listNode, a_listPosition, a_listSize, a_listBody, a_listReturn, a_outputs) (nI a) (nI m) ps sz :=
  ⟨vp_in_nI (by omega) (by omega), nm_r (e' := nI 8) (by rw [nI_clamp (by omega)]; exact hk) (br_f (by decide) (br_f (by decide) (br_f (by decide) (br_f (by decide) (br_f (by decide) (br_f (by decide) (br_f (by decide) (br_f (by decide) (br_f (by decide) (br_f (by decide) (br_t (by decide) (xw_bin ha he h2 (by decide) (by decide) hp))))))))))))⟩
theorem xw_res9 {post : Int32 → Prop} {a m e : Nat} {ps sz : Int32} (ha : a + 1 < 224) (hk : a_kinds a = nI 9) (he : a_ends (a + 1) = nI e) (h2 : e < 224) (hp : post (nu_c 9 (a_results (a + 1)) (a_results e))) : wpX_resultAt post (f_nodeCount, f_innermost, f_draftLength, f_rulesGiven, f_wrongToken, f_wantedCount, f_inCondition, f_depth, f_cursor, f_outcome, f_outputCount, f_stepsTaken, a_names, a_values, a_parents, a_kinds, a_operands, a_priorities, a_givenAt, a_wanted, a_axes, a_passing, a_ends, a_openers, a_table, a_results, a_matched, a_listLeft, a_listNode, a_listPosition, a_listSize, a_listBody, a_listReturn, a_outputs) (nI a) (nI m) ps sz :=
  ⟨vp_in_nI (by omega) (by omega), nm_r (e' := nI 9) (by rw [nI_clamp (by omega)]; exact hk) (br_f (by decide) (br_f (by decide) (br_f (by decide) (br_f (by decide) (br_f (by decide) (br_f (by decide) (br_f (by decide) (br_f (by decide) (br_f (by decide) (br_f (by decide) (br_f (by decide) (br_t (by decide) (xw_bin ha he h2 (by decide) (by decide) hp)))))))))))))⟩
theorem xw_res10 {post : Int32 → Prop} {a m e : Nat} {ps sz : Int32} (ha : a + 1 < 224) (hk : a_kinds a = nI 10) (he : a_ends (a + 1) = nI e) (h2 : e < 224) (hp : post (nu_c 10 (a_results (a + 1)) (a_results e))) : wpX_resultAt post (f_nodeCount, f_innermost, f_draftLength, f_rulesGiven, f_wrongToken, f_wantedCount, f_inCondition, f_depth, f_cursor, f_outcome, f_outputCount, f_stepsTaken, a_names, a_values, a_parents, a_kinds, a_operands, a_priorities, a_givenAt, a_wanted, a_axes, a_passing, a_ends, a_openers, a_table, a_results, a_matched, a_listLeft, a_listNode, a_listPosition, a_listSize, a_listBody, a_listReturn, a_outputs) (nI a) (nI m) ps sz :=
  ⟨vp_in_nI (by omega) (by omega), nm_r (e' := nI 10) (by rw [nI_clamp (by omega)]; exact hk) (br_f (by decide) (br_f (by decide) (br_f (by decide) (br_f (by decide) (br_f (by decide) (br_f (by decide) (br_f (by decide) (br_f (by decide) (br_f (by decide) (br_f (by decide) (br_f (by decide) (br_f (by decide) (br_t (by decide) (xw_bin ha he h2 (by decide) (by decide) hp))))))))))))))⟩
theorem xw_res11 {post : Int32 → Prop} {a m e : Nat} {ps sz : Int32} (ha : a + 1 < 224) (hk : a_kinds a = nI 11) (he : a_ends (a + 1) = nI e) (h2 : e < 224) (hp : post (nu_c 11 (a_results (a + 1)) (a_results e))) : wpX_resultAt post (f_nodeCount, f_innermost, f_draftLength, f_rulesGiven, f_wrongToken, f_wantedCount, f_inCondition, f_depth, f_cursor, f_outcome, f_outputCount, f_stepsTaken, a_names, a_values, a_parents, a_kinds, a_operands, a_priorities, a_givenAt, a_wanted, a_axes, a_passing, a_ends, a_openers, a_table, a_results, a_matched, a_listLeft, a_listNode, a_listPosition, a_listSize, a_listBody, a_listReturn, a_outputs) (nI a) (nI m) ps sz :=
  ⟨vp_in_nI (by omega) (by omega), nm_r (e' := nI 11) (by rw [nI_clamp (by omega)]; exact hk) (br_f (by decide) (br_f (by decide) (br_f (by decide) (br_f (by decide) (br_f (by decide) (br_f (by decide) (br_f (by decide) (br_f (by decide) (br_f (by decide) (br_f (by decide) (br_f (by decide) (br_f (by decide) (br_f (by decide) (br_t (by decide) (xw_bin ha he h2 (by decide) (by decide) hp)))))))))))))))⟩
theorem xw_res12 {post : Int32 → Prop} {a m e : Nat} {ps sz : Int32} (ha : a + 1 < 224) (hk : a_kinds a = nI 12) (he : a_ends (a + 1) = nI e) (h2 : e < 224) (hp : post (nu_c 12 (a_results (a + 1)) (a_results e))) : wpX_resultAt post (f_nodeCount, f_innermost, f_draftLength, f_rulesGiven, f_wrongToken, f_wantedCount, f_inCondition, f_depth, f_cursor, f_outcome, f_outputCount, f_stepsTaken, a_names, a_values, a_parents, a_kinds, a_operands, a_priorities, a_givenAt, a_wanted, a_axes, a_passing, a_ends, a_openers, a_table, a_results, a_matched, a_listLeft, a_listNode, a_listPosition, a_listSize, a_listBody, a_listReturn, a_outputs) (nI a) (nI m) ps sz :=
  ⟨vp_in_nI (by omega) (by omega), nm_r (e' := nI 12) (by rw [nI_clamp (by omega)]; exact hk) (br_f (by decide) (br_f (by decide) (br_f (by decide) (br_f (by decide) (br_f (by decide) (br_f (by decide) (br_f (by decide) (br_f (by decide) (br_f (by decide) (br_f (by decide) (br_f (by decide) (br_f (by decide) (br_f (by decide) (br_f (by decide) (br_t (by decide) (xw_bin ha he h2 (by decide) (by decide) hp))))))))))))))))⟩
theorem xw_res13 {post : Int32 → Prop} {a m e : Nat} {ps sz : Int32} (ha : a + 1 < 224) (hk : a_kinds a = nI 13) (he : a_ends (a + 1) = nI e) (h2 : e < 224) (hp : post (nu_c 13 (a_results (a + 1)) (a_results e))) : wpX_resultAt post (f_nodeCount, f_innermost, f_draftLength, f_rulesGiven, f_wrongToken, f_wantedCount, f_inCondition, f_depth, f_cursor, f_outcome, f_outputCount, f_stepsTaken, a_names, a_values, a_parents, a_kinds, a_operands, a_priorities, a_givenAt, a_wanted, a_axes, a_passing, a_ends, a_openers, a_table, a_results, a_matched, a_listLeft, a_listNode, a_listPosition, a_listSize, a_listBody, a_listReturn, a_outputs) (nI a) (nI m) ps sz :=
  ⟨vp_in_nI (by omega) (by omega), nm_r (e' := nI 13) (by rw [nI_clamp (by omega)]; exact hk) (br_f (by decide) (br_f (by decide) (br_f (by decide) (br_f (by decide) (br_f (by decide) (br_f (by decide) (br_f (by decide) (br_f (by decide) (br_f (by decide) (br_f (by decide) (br_f (by decide) (br_f (by decide) (br_f (by decide) (br_f (by decide) (br_f (by decide) (br_t (by decide) (xw_bin ha he h2 (by decide) (by decide) hp)))))))))))))))))⟩
theorem xw_res14 {post : Int32 → Prop} {a m : Nat} {ps sz : Int32} (ha : a + 1 < 224) (hk : a_kinds a = nI 14) (hp : post (if a_results (a + 1) = 0 then 1 else 0)) : wpX_resultAt post (f_nodeCount, f_innermost, f_draftLength, f_rulesGiven, f_wrongToken, f_wantedCount, f_inCondition, f_depth, f_cursor, f_outcome, f_outputCount, f_stepsTaken, a_names, a_values, a_parents, a_kinds, a_operands, a_priorities, a_givenAt, a_wanted, a_axes, a_passing, a_ends, a_openers, a_table, a_results, a_matched, a_listLeft, a_listNode, a_listPosition, a_listSize, a_listBody, a_listReturn, a_outputs) (nI a) (nI m) ps sz := by
  refine ⟨vp_in_nI (by omega) (by omega), nm_r (e' := nI 14) (by rw [nI_clamp (by omega)]; exact hk) (br_f (by decide) (br_f (by decide) (br_f (by decide) (br_f (by decide) (br_f (by decide) (br_f (by decide) (br_f (by decide) (br_f (by decide) (br_f (by decide) (br_f (by decide) (br_f (by decide) (br_f (by decide) (br_f (by decide) (br_f (by decide) (br_f (by decide) (br_f (by decide) (br_t (by decide) (⟨xw_i1 ha, ?_⟩))))))))))))))))))⟩
  rw [xw_c1 ha]
  refine ⟨fun z => ?_, fun z => ?_⟩
  · rw [if_pos z] at hp; exact hp
  · rw [if_neg z] at hp; exact hp
theorem xw_res15 {post : Int32 → Prop} {a m k : Nat} {ps sz : Int32} (ha : a < 224) (hk : a_kinds a = nI k) (h15 : 14 < k) (hl : k < 100) (hp : post 0) : wpX_resultAt post (f_nodeCount, f_innermost, f_draftLength, f_rulesGiven, f_wrongToken, f_wantedCount, f_inCondition, f_depth, f_cursor, f_outcome, f_outputCount, f_stepsTaken, a_names, a_values, a_parents, a_kinds, a_operands, a_priorities, a_givenAt, a_wanted, a_axes, a_passing, a_ends, a_openers, a_table, a_results, a_matched, a_listLeft, a_listNode, a_listPosition, a_listSize, a_listBody, a_listReturn, a_outputs) (nI a) (nI m) ps sz :=
  ⟨vp_in_nI ha (by omega), nm_r (e' := nI k) (by rw [nI_clamp (by omega)]; exact hk) (br_f (nI_pos (by omega)) (br_t (nI_lt (a := 14) h15 (by omega)) (br_f (nI_nlt (b := 7) (by omega) (by omega)) (br_f (nI_ge (a := 13) (by omega) (by omega)) hp))))⟩
theorem xw_m1 (p : Nat) : nI p + (-1) = nI p - 1 := by rw [Int32.sub_eq_add_neg]
theorem xw_m1lt {p : Nat} (h : p < 2 ^ 31) : nI p - 1 < nI p := by
  cases p with
  | zero => decide
  | succ p => rw [nI_pred]; exact nI_lt (by omega) h
/-- the cells of a slot that begins at b -/
def xs_k (a_kinds : Nat → Int32) (b : Nat) (K : Nat → Nat) : Prop := ∀ x, x < 32 → a_kinds (b + x) = nI (K x)
theorem xw_numberAt_l {post : Int32 → SX → Prop} {K : Nat → Nat} {len b c nd : Nat} {ps sz : Int32} (W : gm_W K len) (hb : b + 32 ≤ 224) (hk : xs_k a_kinds b K) (hc : c < len) (k14 : K c ≤ 14) (he : ∀ x, c ≤ x → x < gm_e K c → a_ends (b + x) = nI (b + gm_e K x)) (hn : nd < 24)
    (hp : ∀ res, post (nu_n K (fun x => a_operands (b + x)) a_values (fun x a => a_table ((b + x) * 24 + a)) nd ps sz c) (f_nodeCount, f_innermost, f_draftLength, f_rulesGiven, f_wrongToken, f_wantedCount, f_inCondition, f_depth, f_cursor, f_outcome, f_outputCount, f_stepsTaken, a_names, a_values, a_parents, a_kinds, a_operands, a_priorities, a_givenAt, a_wanted, a_axes, a_passing, a_ends, a_openers, a_table, res, a_matched, a_listLeft, a_listNode, a_listPosition, a_listSize, a_listBody, a_listReturn, a_outputs)) :
    ∀ d n res, c + d ≤ gm_e K c → d < n → (∀ x, c + d ≤ x → x < gm_e K c → K x ≤ 14 → res (b + x) = nu_n K (fun x => a_operands (b + x)) a_values (fun x a => a_table ((b + x) * 24 + a)) nd ps sz x) →
      wX_numberAt_10 post (nI (b + c)) (nI nd) ps sz f_nodeCount f_innermost f_draftLength f_rulesGiven f_wrongToken f_wantedCount f_inCondition f_depth f_cursor f_outcome f_outputCount f_stepsTaken n (nI (b + c + d) - 1) a_names a_values a_parents a_kinds a_operands a_priorities a_givenAt a_wanted a_axes a_passing a_ends a_openers a_table res a_matched a_listLeft a_listNode a_listPosition a_listSize a_listBody a_listReturn a_outputs := by
  have hl := W.1
  have hel := (W.2.2 c hc).2.1
  have hlt := (W.2.2 c hc).1
  intro d
  induction d with
  | zero =>
    intro n res _ hn' hr
    obtain ⟨n, rfl⟩ : ∃ k, n = k + 1 := ⟨n - 1, by omega⟩
    refine br_t (xw_m1lt (by omega)) ⟨vp_in_nI (by omega) (by omega), ?_⟩
    rw [nI_clamp (by omega), hr c (by omega) hlt k14]
    exact hp res
  | succ d ih =>
    intro n res hd hn' hr
    obtain ⟨n, rfl⟩ : ∃ k, n = k + 1 := ⟨n - 1, by omega⟩
    have ex : nI (b + c + (d + 1)) - 1 = nI (b + (c + d)) := by
      rw [show b + c + (d + 1) = (b + (c + d)) + 1 by omega, nI_pred]
    rw [ex]
    have hcd : c + d < len := by omega
    have L := W.2.2 (c + d) hcd
    have lam := (W.2.2 c hc).2.2.1 (c + d) (by omega) (by omega)
    have hkk := hk (c + d) (by omega)
    refine br_f (nI_nlt (by omega) (by omega)) ?_
    have key : ∀ r, (K (c + d) ≤ 14 → r = nu_n K (fun x => a_operands (b + x)) a_values (fun x a => a_table ((b + x) * 24 + a)) nd ps sz (c + d)) → vp_in (nI (b + (c + d))) 224 ∧ ∀ a_results_41, a_results_41 = upd res (nI (b + (c + d))).toNatClampNeg r → ∀ x5_42, x5_42 = nI (b + (c + d)) + (-1) → wX_numberAt_10 post (nI (b + c)) (nI nd) ps sz f_nodeCount f_innermost f_draftLength f_rulesGiven f_wrongToken f_wantedCount f_inCondition f_depth f_cursor f_outcome f_outputCount f_stepsTaken n x5_42 a_names a_values a_parents a_kinds a_operands a_priorities a_givenAt a_wanted a_axes a_passing a_ends a_openers a_table a_results_41 a_matched a_listLeft a_listNode a_listPosition a_listSize a_listBody a_listReturn a_outputs := by
      intro r hr2
      refine ⟨vp_in_nI (by omega) (by omega), nm_r (e' := upd res (b + (c + d)) r) (by rw [nI_clamp (by omega)]) (nm_r (e' := nI (b + c + d) - 1) (by rw [xw_m1, Nat.add_assoc]) (ih n _ (by omega) (by omega) fun x x1 x2 x3 => ?_))⟩
      rcases Nat.eq_or_lt_of_le x1 with e | e
      · rw [← e, pk_us]; exact hr2 (by rw [e]; exact x3)
      · rw [pk_un (by omega)]; exact hr x (by omega) x2 x3
    match hK : K (c + d) with
    | 0 => rw [hK] at hkk; exact xw_res0 (by omega) hkk (key _ fun _ => by rw [nu_n0 hK])
    | 1 => rw [hK] at hkk; exact xw_res1 (by omega) hkk (key _ fun _ => by rw [nu_n1 hK])
    | 2 => rw [hK] at hkk; exact xw_res2 (by omega) hkk (key _ fun _ => by rw [nu_n2 hK])
    | 3 => rw [hK] at hkk; exact xw_res3 (by omega) hkk hn (key _ fun _ => by rw [nu_n3 hK])
    | 4 => rw [hK] at hkk; exact xw_res4 (by omega) hkk hn (key _ fun _ => by rw [nu_n6 (K := K) (c := c + d) (by omega) (by omega)])
    | 5 => rw [hK] at hkk; exact xw_res5 (by omega) hkk hn (key _ fun _ => by rw [nu_n6 (K := K) (c := c + d) (by omega) (by omega)])
    | 6 => rw [hK] at hkk; exact xw_res6 (by omega) hkk hn (key _ fun _ => by rw [nu_n6 (K := K) (c := c + d) (by omega) (by omega)])
    | 7 =>
      rw [hK] at hkk
      obtain ⟨a1, a2, a3, a4, a5⟩ := L.2.2.2.2.2.1 (by omega)
      refine xw_res7 (by omega) hkk (he (c + d + 1) (by omega) (by omega)) (by omega) (key _ fun _ => ?_)
      rw [nu_n13 W hcd (by omega) (by omega), hK, ← hr (c + d + 1) (by omega) (by omega) a1, ← hr (gm_e K (c + d + 1)) (by omega) (by omega) a2]
      rfl
    | 8 =>
      rw [hK] at hkk
      obtain ⟨a1, a2, a3, a4, a5⟩ := L.2.2.2.2.2.1 (by omega)
      refine xw_res8 (by omega) hkk (he (c + d + 1) (by omega) (by omega)) (by omega) (key _ fun _ => ?_)
      rw [nu_n13 W hcd (by omega) (by omega), hK, ← hr (c + d + 1) (by omega) (by omega) a1, ← hr (gm_e K (c + d + 1)) (by omega) (by omega) a2]
      rfl
    | 9 =>
      rw [hK] at hkk
      obtain ⟨a1, a2, a3, a4, a5⟩ := L.2.2.2.2.2.1 (by omega)
      refine xw_res9 (by omega) hkk (he (c + d + 1) (by omega) (by omega)) (by omega) (key _ fun _ => ?_)
      rw [nu_n13 W hcd (by omega) (by omega), hK, ← hr (c + d + 1) (by omega) (by omega) a1, ← hr (gm_e K (c + d + 1)) (by omega) (by omega) a2]
      rfl
    | 10 =>
      rw [hK] at hkk
      obtain ⟨a1, a2, a3, a4, a5⟩ := L.2.2.2.2.2.1 (by omega)
      refine xw_res10 (by omega) hkk (he (c + d + 1) (by omega) (by omega)) (by omega) (key _ fun _ => ?_)
      rw [nu_n13 W hcd (by omega) (by omega), hK, ← hr (c + d + 1) (by omega) (by omega) a1, ← hr (gm_e K (c + d + 1)) (by omega) (by omega) a2]
      rfl
    | 11 =>
      rw [hK] at hkk
      obtain ⟨a1, a2, a3, a4, a5⟩ := L.2.2.2.2.2.1 (by omega)
      refine xw_res11 (by omega) hkk (he (c + d + 1) (by omega) (by omega)) (by omega) (key _ fun _ => ?_)
      rw [nu_n13 W hcd (by omega) (by omega), hK, ← hr (c + d + 1) (by omega) (by omega) a1, ← hr (gm_e K (c + d + 1)) (by omega) (by omega) a2]
      rfl
    | 12 =>
      rw [hK] at hkk
      obtain ⟨a1, a2, a3, a4, a5⟩ := L.2.2.2.2.2.1 (by omega)
      refine xw_res12 (by omega) hkk (he (c + d + 1) (by omega) (by omega)) (by omega) (key _ fun _ => ?_)
      rw [nu_n13 W hcd (by omega) (by omega), hK, ← hr (c + d + 1) (by omega) (by omega) a1, ← hr (gm_e K (c + d + 1)) (by omega) (by omega) a2]
      rfl
    | 13 =>
      rw [hK] at hkk
      obtain ⟨a1, a2, a3, a4, a5⟩ := L.2.2.2.2.2.1 (by omega)
      refine xw_res13 (by omega) hkk (he (c + d + 1) (by omega) (by omega)) (by omega) (key _ fun _ => ?_)
      rw [nu_n13 W hcd (by omega) (by omega), hK, ← hr (c + d + 1) (by omega) (by omega) a1, ← hr (gm_e K (c + d + 1)) (by omega) (by omega) a2]
      rfl
    | 14 =>
      rw [hK] at hkk
      obtain ⟨a1, a2, a3⟩ := L.2.2.2.2.2.2.1 hK
      refine xw_res14 (by omega) hkk (key _ fun _ => ?_)
      rw [nu_n14 W hcd hK, ← hr (c + d + 1) (by omega) (by omega) a1]
      rfl
    | k + 15 =>
      rw [hK] at hkk
      have := L.2.2.2.2.2.2.2.2.2.1
      exact xw_res15 (by omega) hkk (by omega) (by omega) (key _ fun z => absurd z (by omega))
theorem xw_numberAt {post : Int32 → SX → Prop} {K : Nat → Nat} {len b c nd : Nat} {ps sz : Int32} (W : gm_W K len) (hb : b + 32 ≤ 224) (hk : xs_k a_kinds b K) (hc : c < len) (k14 : K c ≤ 14) (he : ∀ x, c ≤ x → x < gm_e K c → a_ends (b + x) = nI (b + gm_e K x)) (hn : nd < 24)
    (hp : ∀ res, post (nu_n K (fun x => a_operands (b + x)) a_values (fun x a => a_table ((b + x) * 24 + a)) nd ps sz c) (f_nodeCount, f_innermost, f_draftLength, f_rulesGiven, f_wrongToken, f_wantedCount, f_inCondition, f_depth, f_cursor, f_outcome, f_outputCount, f_stepsTaken, a_names, a_values, a_parents, a_kinds, a_operands, a_priorities, a_givenAt, a_wanted, a_axes, a_passing, a_ends, a_openers, a_table, res, a_matched, a_listLeft, a_listNode, a_listPosition, a_listSize, a_listBody, a_listReturn, a_outputs)) : wpX_numberAt post (f_nodeCount, f_innermost, f_draftLength, f_rulesGiven, f_wrongToken, f_wantedCount, f_inCondition, f_depth, f_cursor, f_outcome, f_outputCount, f_stepsTaken, a_names, a_values, a_parents, a_kinds, a_operands, a_priorities, a_givenAt, a_wanted, a_axes, a_passing, a_ends, a_openers, a_table, a_results, a_matched, a_listLeft, a_listNode, a_listPosition, a_listSize, a_listBody, a_listReturn, a_outputs) (nI (b + c)) (nI nd) ps sz := by
  have hl := W.1
  have hel := (W.2.2 c hc).2.1
  have hlt := (W.2.2 c hc).1
  refine ⟨vp_in_nI (by omega) (by omega), nm_r (e' := nI (b + c + (gm_e K c - c)) - 1) ?_ ⟨gm_e K c - c + 1, xw_numberAt_l W hb hk hc k14 he hn hp (gm_e K c - c) _ a_results (by omega) (by omega) fun x x1 x2 _ => absurd x2 (by omega)⟩⟩
  rw [nI_clamp (by omega), he c (Nat.le_refl _) hlt, show b + c + (gm_e K c - c) = b + gm_e K c by omega]
