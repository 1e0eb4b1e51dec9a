/-! the reference: the grammar -/
variable {g_nodes g_inner g_rules g_place g_listed g_depth g_row g_pc g_node g_position g_size g_fault g_put g_steps : Int32} {b_name b_parent b_value b_kind b_with b_count b_bodyAt b_priority b_given b_there b_wanted b_waiting b_within b_list b_left b_reached b_sizes b_each b_backRow b_backPc b_backNode b_backPosition b_backSize b_output : Nat → Int32}
theorem yg_nb : ∀ m, m < 128 → (nI m).toInt8.toInt32 = nI m := by decide +kernel
theorem yg_nar {m : Nat} (h : m < 128) : vp_nar .byte (nI m) = nI m := by rw [vp_nar_byte]; exact yg_nb m h
theorem yg_213 {post : Int32 → SY → Prop} {J : Int32 → Int32 → Int32 → Int32 → Int32 → Int32 → Int32 → Int32 → Int32 → Int32 → Int32 → Int32 → Int32 → Int32 → Int32 → Int32 → (Nat → Int32) → (Nat → Int32) → (Nat → Int32) → (Nat → Int32) → (Nat → Int32) → (Nat → Int32) → (Nat → Int32) → (Nat → Int32) → (Nat → Int32) → (Nat → Int32) → (Nat → Int32) → (Nat → Int32) → (Nat → Int32) → (Nat → Int32) → (Nat → Int32) → (Nat → Int32) → (Nat → Int32) → (Nat → Int32) → (Nat → Int32) → (Nat → Int32) → (Nat → Int32) → (Nat → Int32) → (Nat → Int32) → (Nat → Int32) → Prop} {x3 : Int32} {i k : Nat} (hk : k < 2 ^ 31) (h : J (nI k) (nI (i + 1)) g_nodes g_inner g_rules g_place g_listed g_depth g_row g_pc g_node g_position g_size g_fault g_put g_steps b_name b_parent b_value b_kind b_with b_count b_bodyAt b_priority b_given b_there b_wanted b_waiting b_within b_list b_left b_reached b_sizes b_each b_backRow b_backPc b_backNode b_backPosition b_backSize b_output) : wY_misfit_213 post J x3 (nI i) (nI k) g_nodes g_inner g_rules g_place g_listed g_depth g_row g_pc g_node g_position g_size g_fault g_put g_steps b_name b_parent b_value b_kind b_with b_count b_bodyAt b_priority b_given b_there b_wanted b_waiting b_within b_list b_left b_reached b_sizes b_each b_backRow b_backPc b_backNode b_backPosition b_backSize b_output :=
  br_t (nI_pos' hk) (nm_r (nI_1 i) h)
theorem yg_213F {post : Int32 → SY → Prop} {J : Int32 → Int32 → Int32 → Int32 → Int32 → Int32 → Int32 → Int32 → Int32 → Int32 → Int32 → Int32 → Int32 → Int32 → Int32 → Int32 → (Nat → Int32) → (Nat → Int32) → (Nat → Int32) → (Nat → Int32) → (Nat → Int32) → (Nat → Int32) → (Nat → Int32) → (Nat → Int32) → (Nat → Int32) → (Nat → Int32) → (Nat → Int32) → (Nat → Int32) → (Nat → Int32) → (Nat → Int32) → (Nat → Int32) → (Nat → Int32) → (Nat → Int32) → (Nat → Int32) → (Nat → Int32) → (Nat → Int32) → (Nat → Int32) → (Nat → Int32) → (Nat → Int32) → (Nat → Int32) → Prop} {x3 x4 : Int32} (h : post x4 (g_nodes, g_inner, g_rules, g_place, g_listed, g_depth, g_row, g_pc, g_node, g_position, g_size, g_fault, g_put, g_steps, b_name, b_parent, b_value, b_kind, b_with, b_count, b_bodyAt, b_priority, b_given, b_there, b_wanted, b_waiting, b_within, b_list, b_left, b_reached, b_sizes, b_each, b_backRow, b_backPc, b_backNode, b_backPosition, b_backSize, b_output)) : wY_misfit_213 post J x3 x4 (-1) g_nodes g_inner g_rules g_place g_listed g_depth g_row g_pc g_node g_position g_size g_fault g_put g_steps b_name b_parent b_value b_kind b_with b_count b_bodyAt b_priority b_given b_there b_wanted b_waiting b_within b_list b_left b_reached b_sizes b_each b_backRow b_backPc b_backNode b_backPosition b_backSize b_output := br_f (by decide) h
theorem yg_in {k : Nat} (h : k < 64) : vp_in (nI k) 64 := vp_in_nI h (by omega)
/-- one more want on the stack -/
theorem yg_push {s : List Nat} {w : Nat → Int32} {v : Nat} {x : Int32} (hx : vp_nar .byte x = nI v) (h : sk w s) (hl : s.length < 64) : upd w (nI s.length).toNatClampNeg (vp_nar .byte x) = upd w s.length (nI v) ∧ sk (upd w s.length (nI v)) (v :: s) := by
  rw [nI_clamp (by omega), hx]
  exact ⟨rfl, sk_p h⟩
theorem yg_body {post : Int32 → SY → Prop} {J : Int32 → Int32 → Int32 → Int32 → Int32 → Int32 → Int32 → Int32 → Int32 → Int32 → Int32 → Int32 → Int32 → Int32 → Int32 → Int32 → (Nat → Int32) → (Nat → Int32) → (Nat → Int32) → (Nat → Int32) → (Nat → Int32) → (Nat → Int32) → (Nat → Int32) → (Nat → Int32) → (Nat → Int32) → (Nat → Int32) → (Nat → Int32) → (Nat → Int32) → (Nat → Int32) → (Nat → Int32) → (Nat → Int32) → (Nat → Int32) → (Nat → Int32) → (Nat → Int32) → (Nat → Int32) → (Nat → Int32) → (Nat → Int32) → (Nat → Int32) → (Nat → Int32) → (Nat → Int32) → Prop} {x3 : Int32} {i t w0 : Nat} {s : List Nat} (h01 : w0 = 0 ∨ w0 = 1) (ht : t < 100) (hs : s.length < 60) (hw : sk b_wanted (w0 :: s))
    (h0 : (if t = 20 then some (w0 :: s) else if t = 21 then some (1 :: w0 :: s) else if t = 22 then some (2 :: w0 :: s)
       else if t = 23 then some (3 :: w0 :: s) else if t = 24 then some (2 :: 1 :: w0 :: s) else if t = 25 then some (3 :: 1 :: w0 :: s)
       else if t = 26 ∧ w0 = 1 then some s else none) = none → ∀ w', post (nI i) (g_nodes, g_inner, g_rules, g_place, g_listed, g_depth, g_row, g_pc, g_node, g_position, g_size, g_fault, g_put, g_steps, b_name, b_parent, b_value, b_kind, b_with, b_count, b_bodyAt, b_priority, b_given, b_there, w', b_waiting, b_within, b_list, b_left, b_reached, b_sizes, b_each, b_backRow, b_backPc, b_backNode, b_backPosition, b_backSize, b_output))
    (h1 : ∀ s', (if t = 20 then some (w0 :: s) else if t = 21 then some (1 :: w0 :: s) else if t = 22 then some (2 :: w0 :: s)
       else if t = 23 then some (3 :: w0 :: s) else if t = 24 then some (2 :: 1 :: w0 :: s) else if t = 25 then some (3 :: 1 :: w0 :: s)
       else if t = 26 ∧ w0 = 1 then some s else none) = some s' → ∀ w', sk w' s' → J (nI s'.length) (nI (i + 1)) g_nodes g_inner g_rules g_place g_listed g_depth g_row g_pc g_node g_position g_size g_fault g_put g_steps b_name b_parent b_value b_kind b_with b_count b_bodyAt b_priority b_given b_there w' b_waiting b_within b_list b_left b_reached b_sizes b_each b_backRow b_backPc b_backNode b_backPosition b_backSize b_output) :
    wpY_body (fun r u => match u with | (g_nodes_1, g_inner_1, g_rules_1, g_place_1, g_listed_1, g_depth_1, g_row_1, g_pc_1, g_node_1, g_position_1, g_size_1, g_fault_1, g_put_1, g_steps_1, b_name_1, b_parent_1, b_value_1, b_kind_1, b_with_1, b_count_1, b_bodyAt_1, b_priority_1, b_given_1, b_there_1, b_wanted_1, b_waiting_1, b_within_1, b_list_1, b_left_1, b_reached_1, b_sizes_1, b_each_1, b_backRow_1, b_backPc_1, b_backNode_1, b_backPosition_1, b_backSize_1, b_output_1) => wY_misfit_213 post J x3 (nI i) r g_nodes_1 g_inner_1 g_rules_1 g_place_1 g_listed_1 g_depth_1 g_row_1 g_pc_1 g_node_1 g_position_1 g_size_1 g_fault_1 g_put_1 g_steps_1 b_name_1 b_parent_1 b_value_1 b_kind_1 b_with_1 b_count_1 b_bodyAt_1 b_priority_1 b_given_1 b_there_1 b_wanted_1 b_waiting_1 b_within_1 b_list_1 b_left_1 b_reached_1 b_sizes_1 b_each_1 b_backRow_1 b_backPc_1 b_backNode_1 b_backPosition_1 b_backSize_1 b_output_1) (g_nodes, g_inner, g_rules, g_place, g_listed, g_depth, g_row, g_pc, g_node, g_position, g_size, g_fault, g_put, g_steps, b_name, b_parent, b_value, b_kind, b_with, b_count, b_bodyAt, b_priority, b_given, b_there, b_wanted, b_waiting, b_within, b_list, b_left, b_reached, b_sizes, b_each, b_backRow, b_backPc, b_backNode, b_backPosition, b_backSize, b_output) (nI w0) (nI t) (nI (s.length + 1)) := by
  have c1 : (nI (s.length + 1)).toNatClampNeg = s.length + 1 := nI_clamp (by omega)
  have c2 : (nI (s.length + 2)).toNatClampNeg = s.length + 2 := nI_clamp (by omega)
  by_cases hlo : t < 20
  · refine br_t (nI_lt (b := 20) hlo (by omega)) (yg_213F (h0 ?_ _))
    rw [if_neg (by omega), if_neg (by omega), if_neg (by omega), if_neg (by omega), if_neg (by omega), if_neg (by omega), if_neg (by omega)]
  refine br_f (nI_nlt (b := 20) (by omega) (by omega)) ?_
  by_cases hhi : 26 < t
  · refine br_t (nI_lt (a := 26) hhi (by omega)) (yg_213F (h0 ?_ _))
    rw [if_neg (by omega), if_neg (by omega), if_neg (by omega), if_neg (by omega), if_neg (by omega), if_neg (by omega), if_neg (by omega)]
  refine br_f (nI_nlt (a := 26) (by omega) (by omega)) ?_
  have two : ∀ v1 v2, v1 < 128 → v2 < 128 → sk (upd (upd b_wanted (s.length + 1) (nI v1)) (s.length + 2) (nI v2)) (v2 :: v1 :: w0 :: s) := fun v1 v2 _ _ => sk_p (s := v1 :: w0 :: s) (sk_p (s := w0 :: s) hw)
  rcases (show t = 20 ∨ t = 21 ∨ t = 22 ∨ t = 23 ∨ t = 24 ∨ t = 25 ∨ t = 26 by omega) with rfl | rfl | rfl | rfl | rfl | rfl | rfl
  · exact br_t (by decide) (yg_213 (by omega) (h1 (w0 :: s) rfl _ hw))
  · exact br_f (by decide) (br_t (by decide) (nm_r (nI_1 _) ⟨yg_in (by omega), nm_r (e' := upd b_wanted (s.length + 1) (nI 1)) (by rw [c1]; exact congrArg _ (yg_nar (m := 1) (by omega))) (yg_213 (by omega) (h1 (1 :: w0 :: s) rfl _ (sk_p (s := w0 :: s) hw)))⟩))
  · exact br_f (by decide) (br_f (by decide) (br_t (by decide) (nm_r (nI_1 _) ⟨yg_in (by omega), nm_r (e' := upd b_wanted (s.length + 1) (nI 2)) (by rw [c1]; exact congrArg _ (yg_nar (m := 2) (by omega))) (yg_213 (by omega) (h1 (2 :: w0 :: s) rfl _ (sk_p (s := w0 :: s) hw)))⟩)))
  · exact br_f (by decide) (br_f (by decide) (br_f (by decide) (br_t (by decide) (nm_r (nI_1 _) ⟨yg_in (by omega), nm_r (e' := upd b_wanted (s.length + 1) (nI 3)) (by rw [c1]; exact congrArg _ (yg_nar (m := 3) (by omega))) (yg_213 (by omega) (h1 (3 :: w0 :: s) rfl _ (sk_p (s := w0 :: s) hw)))⟩))))
  · exact br_f (by decide) (br_f (by decide) (br_f (by decide) (br_f (by decide) (br_t (by decide) (nm_r (nI_1 _) ⟨yg_in (by omega), nm_r (e' := upd b_wanted (s.length + 1) (nI 1)) (by rw [c1]; exact congrArg _ (yg_nar (m := 1) (by omega))) (nm_r (nI_1 _) (br_t (by decide) ⟨yg_in (by omega), nm_r (e' := upd (upd b_wanted (s.length + 1) (nI 1)) (s.length + 2) (nI 2)) (by rw [c2]; exact congrArg _ (yw_nar (m := 2) (by omega))) (yg_213 (by omega) (h1 (2 :: 1 :: w0 :: s) rfl _ (two 1 2 (by omega) (by omega))))⟩))⟩)))))
  · exact br_f (by decide) (br_f (by decide) (br_f (by decide) (br_f (by decide) (br_f (by decide) (br_t (by decide) (nm_r (nI_1 _) ⟨yg_in (by omega), nm_r (e' := upd b_wanted (s.length + 1) (nI 1)) (by rw [c1]; exact congrArg _ (yg_nar (m := 1) (by omega))) (nm_r (nI_1 _) (br_f (by decide) ⟨yg_in (by omega), nm_r (e' := upd (upd b_wanted (s.length + 1) (nI 1)) (s.length + 2) (nI 3)) (by rw [c2]; exact congrArg _ (yw_nar (m := 3) (by omega))) (yg_213 (by omega) (h1 (3 :: 1 :: w0 :: s) rfl _ (two 1 3 (by omega) (by omega))))⟩))⟩))))))
  · refine br_f (by decide) (br_f (by decide) (br_f (by decide) (br_f (by decide) (br_f (by decide) (br_f (by decide) (br_t (by decide) ?_))))))
    rcases h01 with rfl | rfl
    · exact br_f (by decide) (yg_213F (h0 rfl _))
    · refine br_t (by decide) ?_
      rw [nI_pred]
      exact yg_213 (by omega) (h1 s rfl _ hw.2)
theorem yg_operand {post : Int32 → SY → Prop} {J : Int32 → Int32 → Int32 → Int32 → Int32 → Int32 → Int32 → Int32 → Int32 → Int32 → Int32 → Int32 → Int32 → Int32 → Int32 → Int32 → (Nat → Int32) → (Nat → Int32) → (Nat → Int32) → (Nat → Int32) → (Nat → Int32) → (Nat → Int32) → (Nat → Int32) → (Nat → Int32) → (Nat → Int32) → (Nat → Int32) → (Nat → Int32) → (Nat → Int32) → (Nat → Int32) → (Nat → Int32) → (Nat → Int32) → (Nat → Int32) → (Nat → Int32) → (Nat → Int32) → (Nat → Int32) → (Nat → Int32) → (Nat → Int32) → (Nat → Int32) → (Nat → Int32) → (Nat → Int32) → Prop} {x3 : Int32} {i t w0 : Nat} {s : List Nat} (h01 : w0 = 2 ∨ w0 = 5) (ht : t < 100) (hs : s.length < 60) (hw : sk b_wanted (w0 :: s)) (h0 : gm_st t (w0 :: s) = none → ∀ w', post (nI i) (g_nodes, g_inner, g_rules, g_place, g_listed, g_depth, g_row, g_pc, g_node, g_position, g_size, g_fault, g_put, g_steps, b_name, b_parent, b_value, b_kind, b_with, b_count, b_bodyAt, b_priority, b_given, b_there, w', b_waiting, b_within, b_list, b_left, b_reached, b_sizes, b_each, b_backRow, b_backPc, b_backNode, b_backPosition, b_backSize, b_output)) (h1 : ∀ s', gm_st t (w0 :: s) = some s' → ∀ w', sk w' s' → J (nI s'.length) (nI (i + 1)) g_nodes g_inner g_rules g_place g_listed g_depth g_row g_pc g_node g_position g_size g_fault g_put g_steps b_name b_parent b_value b_kind b_with b_count b_bodyAt b_priority b_given b_there w' b_waiting b_within b_list b_left b_reached b_sizes b_each b_backRow b_backPc b_backNode b_backPosition b_backSize b_output) :
    wY_misfit_168 post J (nI (s.length + 1)) x3 (nI i) (nI t) (nI w0) g_nodes g_inner g_rules g_place g_listed g_depth g_row g_pc g_node g_position g_size g_fault g_put g_steps b_name b_parent b_value b_kind b_with b_count b_bodyAt b_priority b_given b_there b_wanted b_waiting b_within b_list b_left b_reached b_sizes b_each b_backRow b_backPc b_backNode b_backPosition b_backSize b_output := by
  have c1 : (nI s.length).toNatClampNeg = s.length := nI_clamp (by omega)
  have c2 : (nI (s.length + 1)).toNatClampNeg = s.length + 1 := nI_clamp (by omega)
  rw [gm_stN _ _ _ h01] at h0 h1
  have wn : vp_nar .byte (nI w0).toInt8.toInt32 = nI w0 := yw_nar (by omega)
  have wn1 : vp_nar .byte (nI w0 + 1).toInt8.toInt32 = nI (w0 + 1) := by rw [nI_1]; exact yw_nar (by omega)
  unfold wY_misfit_168 wpY_operand
  refine nm_r (nI_pred _) ?_
  by_cases h3 : t ≤ 3
  · refine br_f (nI_ge (b := 4) (by omega) (by omega)) (yg_213 (by omega) (h1 s (if_pos h3) _ hw.2))
  refine br_t (nI_le (a := 4) (by omega) (by omega)) ?_
  by_cases h6 : t ≤ 6
  · refine br_f (nI_ge (b := 7) (by omega) (by omega)) (nm_r (nI_1 _) ⟨yg_in (by omega), nm_r (e' := upd b_wanted s.length (nI (w0 + 1))) (by rw [c1, wn1]) (yg_213 (by omega) (h1 ((w0 + 1) :: s) (by rw [if_neg h3, if_pos h6]) _ (sk_p hw.2)))⟩)
  refine br_t (nI_le (a := 7) (by omega) (by omega)) ?_
  by_cases h14 : t ≤ 14
  · refine br_t (nI_le (b := 14) h14 (by omega)) (nm_r (nI_1 _) ⟨yg_in (by omega), nm_r (e' := upd b_wanted s.length (nI w0)) (by rw [c1, wn]) ?_⟩)
    by_cases h13 : t ≤ 13
    · exact br_f (nI_ge (b := 14) (by omega) (by omega)) (nm_r (nI_1 _) ⟨yg_in (by omega), nm_r (e' := upd (upd b_wanted s.length (nI w0)) (s.length + 1) (nI w0)) (by rw [c2, wn]) (yg_213 (by omega) (h1 (w0 :: w0 :: s) (by rw [if_neg h3, if_neg h6, if_pos h13]) _ (sk_p (s := w0 :: s) (sk_p hw.2))))⟩)
    · exact br_t (nI_le (a := 14) (by omega) (by omega)) (yg_213 (by omega) (h1 (w0 :: s) (by rw [if_neg h3, if_neg h6, if_neg h13, if_pos (by omega)]) _ (sk_p hw.2)))
  · refine br_f (nI_ge (a := 14) (by omega) (by omega)) (yg_213F (h0 ?_ _))
    rw [if_neg h3, if_neg h6, if_neg (by omega), if_neg (by omega)]
theorem yg_step3 {post : Int32 → SY → Prop} {J : Int32 → Int32 → Int32 → Int32 → Int32 → Int32 → Int32 → Int32 → Int32 → Int32 → Int32 → Int32 → Int32 → Int32 → Int32 → Int32 → (Nat → Int32) → (Nat → Int32) → (Nat → Int32) → (Nat → Int32) → (Nat → Int32) → (Nat → Int32) → (Nat → Int32) → (Nat → Int32) → (Nat → Int32) → (Nat → Int32) → (Nat → Int32) → (Nat → Int32) → (Nat → Int32) → (Nat → Int32) → (Nat → Int32) → (Nat → Int32) → (Nat → Int32) → (Nat → Int32) → (Nat → Int32) → (Nat → Int32) → (Nat → Int32) → (Nat → Int32) → (Nat → Int32) → (Nat → Int32) → Prop} {x3 : Int32} {i t w0 : Nat} {s : List Nat} (h01 : w0 = 3 ∨ w0 = 6) (ht : t < 100) (hs : s.length < 60) (hw : sk b_wanted (w0 :: s)) (h0 : gm_st t (w0 :: s) = none → ∀ w', post (nI i) (g_nodes, g_inner, g_rules, g_place, g_listed, g_depth, g_row, g_pc, g_node, g_position, g_size, g_fault, g_put, g_steps, b_name, b_parent, b_value, b_kind, b_with, b_count, b_bodyAt, b_priority, b_given, b_there, w', b_waiting, b_within, b_list, b_left, b_reached, b_sizes, b_each, b_backRow, b_backPc, b_backNode, b_backPosition, b_backSize, b_output)) (h1 : ∀ s', gm_st t (w0 :: s) = some s' → ∀ w', sk w' s' → J (nI s'.length) (nI (i + 1)) g_nodes g_inner g_rules g_place g_listed g_depth g_row g_pc g_node g_position g_size g_fault g_put g_steps b_name b_parent b_value b_kind b_with b_count b_bodyAt b_priority b_given b_there w' b_waiting b_within b_list b_left b_reached b_sizes b_each b_backRow b_backPc b_backNode b_backPosition b_backSize b_output) :
    wpY_step (fun r u => match u with | (g_nodes_1, g_inner_1, g_rules_1, g_place_1, g_listed_1, g_depth_1, g_row_1, g_pc_1, g_node_1, g_position_1, g_size_1, g_fault_1, g_put_1, g_steps_1, b_name_1, b_parent_1, b_value_1, b_kind_1, b_with_1, b_count_1, b_bodyAt_1, b_priority_1, b_given_1, b_there_1, b_wanted_1, b_waiting_1, b_within_1, b_list_1, b_left_1, b_reached_1, b_sizes_1, b_each_1, b_backRow_1, b_backPc_1, b_backNode_1, b_backPosition_1, b_backSize_1, b_output_1) => wY_misfit_213 post J x3 (nI i) r g_nodes_1 g_inner_1 g_rules_1 g_place_1 g_listed_1 g_depth_1 g_row_1 g_pc_1 g_node_1 g_position_1 g_size_1 g_fault_1 g_put_1 g_steps_1 b_name_1 b_parent_1 b_value_1 b_kind_1 b_with_1 b_count_1 b_bodyAt_1 b_priority_1 b_given_1 b_there_1 b_wanted_1 b_waiting_1 b_within_1 b_list_1 b_left_1 b_reached_1 b_sizes_1 b_each_1 b_backRow_1 b_backPc_1 b_backNode_1 b_backPosition_1 b_backSize_1 b_output_1) (g_nodes, g_inner, g_rules, g_place, g_listed, g_depth, g_row, g_pc, g_node, g_position, g_size, g_fault, g_put, g_steps, b_name, b_parent, b_value, b_kind, b_with, b_count, b_bodyAt, b_priority, b_given, b_there, b_wanted, b_waiting, b_within, b_list, b_left, b_reached, b_sizes, b_each, b_backRow, b_backPc, b_backNode, b_backPosition, b_backSize, b_output) (nI w0) (nI t) (nI (s.length + 1)) := by
  have c1 : (nI s.length).toNatClampNeg = s.length := nI_clamp (by omega)
  rw [gm_stP _ _ _ h01] at h0 h1
  by_cases h15 : t = 15
  · subst h15
    have s17 : wY_step_17 (fun r u => match u with | (g_nodes_1, g_inner_1, g_rules_1, g_place_1, g_listed_1, g_depth_1, g_row_1, g_pc_1, g_node_1, g_position_1, g_size_1, g_fault_1, g_put_1, g_steps_1, b_name_1, b_parent_1, b_value_1, b_kind_1, b_with_1, b_count_1, b_bodyAt_1, b_priority_1, b_given_1, b_there_1, b_wanted_1, b_waiting_1, b_within_1, b_list_1, b_left_1, b_reached_1, b_sizes_1, b_each_1, b_backRow_1, b_backPc_1, b_backNode_1, b_backPosition_1, b_backSize_1, b_output_1) => wY_misfit_213 post J x3 (nI i) r g_nodes_1 g_inner_1 g_rules_1 g_place_1 g_listed_1 g_depth_1 g_row_1 g_pc_1 g_node_1 g_position_1 g_size_1 g_fault_1 g_put_1 g_steps_1 b_name_1 b_parent_1 b_value_1 b_kind_1 b_with_1 b_count_1 b_bodyAt_1 b_priority_1 b_given_1 b_there_1 b_wanted_1 b_waiting_1 b_within_1 b_list_1 b_left_1 b_reached_1 b_sizes_1 b_each_1 b_backRow_1 b_backPc_1 b_backNode_1 b_backPosition_1 b_backSize_1 b_output_1) (nI (s.length + 1)) g_nodes g_inner g_rules g_place g_listed g_depth g_row g_pc g_node g_position g_size g_fault g_put g_steps b_name b_parent b_value b_kind b_with b_count b_bodyAt b_priority b_given b_there b_wanted b_waiting b_within b_list b_left b_reached b_sizes b_each b_backRow b_backPc b_backNode b_backPosition b_backSize b_output := by
      unfold wY_step_17
      rw [nI_pred]
      refine ⟨yg_in (by omega), yg_in (by omega), nm_r (e' := upd b_wanted s.length (nI (w0 + 1))) ?_ (yg_213 (by omega) (h1 ((w0 + 1) :: s) rfl _ (sk_p hw.2)))⟩
      rw [c1, hw.1, nI_1, yw_nar (by omega)]
    refine br_t (by decide) ?_
    rcases h01 with rfl | rfl
    · exact br_t (by decide) s17
    · exact br_f (by decide) (br_t (by decide) s17)
  · refine br_f (fun z => h15 ((nI_eq (b := 15) (by omega) (by omega)).mp z)) (br_f (fun z => ?_) (yg_213F (h0 (if_neg h15) _)))
    have := (nI_eq (b := 4) (by omega) (by omega)).mp z
    omega
theorem yg_121 {post : Int32 → SY → Prop} {J : Int32 → Int32 → Int32 → Int32 → Int32 → Int32 → Int32 → Int32 → Int32 → Int32 → Int32 → Int32 → Int32 → Int32 → Int32 → Int32 → (Nat → Int32) → (Nat → Int32) → (Nat → Int32) → (Nat → Int32) → (Nat → Int32) → (Nat → Int32) → (Nat → Int32) → (Nat → Int32) → (Nat → Int32) → (Nat → Int32) → (Nat → Int32) → (Nat → Int32) → (Nat → Int32) → (Nat → Int32) → (Nat → Int32) → (Nat → Int32) → (Nat → Int32) → (Nat → Int32) → (Nat → Int32) → (Nat → Int32) → (Nat → Int32) → (Nat → Int32) → (Nat → Int32) → (Nat → Int32) → Prop} {x3 : Int32} {i t a : Nat} {s : List Nat} {z c : Bool} (ht : t < 100) (hs : s.length < 60) (hok : sk_ok z c (a :: s)) (hw : sk b_wanted (a :: s)) (h7 : ¬ (a = 7 ∧ t ≠ 15)) (h4 : ¬ (a = 4 ∧ t ≠ 15 ∧ t ≠ 16))
    (h0 : gm_st t (a :: s) = none → ∀ w', post (nI i) (g_nodes, g_inner, g_rules, g_place, g_listed, g_depth, g_row, g_pc, g_node, g_position, g_size, g_fault, g_put, g_steps, b_name, b_parent, b_value, b_kind, b_with, b_count, b_bodyAt, b_priority, b_given, b_there, w', b_waiting, b_within, b_list, b_left, b_reached, b_sizes, b_each, b_backRow, b_backPc, b_backNode, b_backPosition, b_backSize, b_output)) (h1 : ∀ s', gm_st t (a :: s) = some s' → ∀ w', sk w' s' → J (nI s'.length) (nI (i + 1)) g_nodes g_inner g_rules g_place g_listed g_depth g_row g_pc g_node g_position g_size g_fault g_put g_steps b_name b_parent b_value b_kind b_with b_count b_bodyAt b_priority b_given b_there w' b_waiting b_within b_list b_left b_reached b_sizes b_each b_backRow b_backPc b_backNode b_backPosition b_backSize b_output) :
    wY_misfit_121 post J (nI (a :: s).length) x3 (nI i) (nI t) g_nodes g_inner g_rules g_place g_listed g_depth g_row g_pc g_node g_position g_size g_fault g_put g_steps b_name b_parent b_value b_kind b_with b_count b_bodyAt b_priority b_given b_there b_wanted b_waiting b_within b_list b_left b_reached b_sizes b_each b_backRow b_backPc b_backNode b_backPosition b_backSize b_output := by
  have a8 := sk_ok8 hok a (List.mem_cons.mpr (Or.inl rfl))
  have eL : nI (a :: s).length = nI (s.length + 1) := rfl
  have e1 : nI (s.length + 1) - 1 = nI s.length := nI_pred _
  have c1 : (nI s.length).toNatClampNeg = s.length := nI_clamp (by omega)
  have hw1 := hw.1
  have hw2 := hw.2
  rw [eL]
  refine br_f (nI_ne0 (by omega) (by omega)) ?_
  rw [e1]
  refine ⟨yg_in (by omega), nm_r (e' := nI a) (by rw [c1]; exact hw1) ?_⟩
  rcases (show a = 0 ∨ a = 1 ∨ a = 2 ∨ a = 3 ∨ a = 4 ∨ a = 5 ∨ a = 6 ∨ a = 7 ∨ a = 8 by omega) with ha | ha | ha | ha | ha | ha | ha | ha | ha
  · subst ha
    refine br_f (by decide) ?_
    have hB := gm_stB t 0 s (by omega)
    exact yg_body (w0 := 0) (Or.inl rfl) ht hs hw (fun z => h0 (hB.trans z)) (fun s' z => h1 s' (hB.trans z))
  · subst ha
    refine br_f (by decide) ?_
    have hB := gm_stB t 1 s (by omega)
    exact yg_body (w0 := 1) (Or.inr rfl) ht hs hw (fun z => h0 (hB.trans z)) (fun s' z => h1 s' (hB.trans z))
  · subst ha
    exact br_t (by decide) (br_t (by decide) (yg_operand (w0 := 2) (Or.inl rfl) ht hs hw h0 h1))
  · subst ha
    exact br_t (by decide) (br_f (by decide) (br_f (by decide) (br_f (by decide) (yg_step3 (w0 := 3) (Or.inl rfl) ht hs hw h0 h1))))
  · subst ha
    refine br_t (by decide) (br_f (by decide) (br_f (by decide) (br_f (by decide) ?_)))
    rw [gm_st4] at h0 h1
    by_cases h15 : t = 15
    · subst h15
      exact br_t (by decide) (br_f (by decide) (br_f (by decide) (yg_213 (k := s.length + 1) (by omega) (h1 (4 :: s) rfl _ hw))))
    · have h16 : t = 16 := Classical.byContradiction fun q => h4 ⟨rfl, h15, q⟩
      subst h16
      have e2 : nI (s.length + 1) + 1 = nI (s.length + 2) := nI_1 _
      have e3 : nI (s.length + 1) + 2 = nI (s.length + 3) := nI_add (s.length + 1) 2
      refine br_f (by decide) (br_t (by decide) ⟨yg_in (by omega), nm_r (e' := upd b_wanted (s.length + 1) (nI 8)) (by rw [nI_clamp (by omega)]; exact congrArg _ (yg_nar (m := 8) (by omega))) ?_⟩)
      rw [e2, e3]
      refine ⟨yg_in (by omega), nm_r (e' := upd (upd b_wanted (s.length + 1) (nI 8)) (s.length + 2) (nI 5)) (by rw [nI_clamp (by omega)]; exact congrArg _ (yg_nar (m := 5) (by omega))) (yg_213 (by omega) (h1 (5 :: 8 :: 4 :: s) rfl _ ?_))⟩
      exact sk_p (s := 8 :: 4 :: s) (sk_p (s := 4 :: s) hw)
  · subst ha
    exact br_t (by decide) (br_f (by decide) (br_t (by decide) (yg_operand (w0 := 5) (Or.inr rfl) ht hs hw h0 h1)))
  · subst ha
    exact br_t (by decide) (br_f (by decide) (br_f (by decide) (br_f (by decide) (yg_step3 (w0 := 6) (Or.inr rfl) ht hs hw h0 h1))))
  · subst ha
    have h15 : t = 15 := Classical.byContradiction fun q => h7 ⟨rfl, q⟩
    subst h15
    rw [gm_st7] at h1
    exact br_t (by decide) (br_f (by decide) (br_f (by decide) (br_f (by decide) (br_t (by decide) (br_f (by decide) (br_f (by decide) (yg_213 (k := s.length + 1) (by omega) (h1 (7 :: s) rfl _ hw))))))))
  · subst ha
    rw [gm_st8] at h0 h1
    refine br_t (by decide) (br_f (by decide) (br_f (by decide) (br_t (by decide) (pk_eq t 17 (fun q => ?_) (fun q => yg_213F (h0 (if_neg q) _))))))
    exact yg_213 (by omega) (h1 s (if_pos q) _ hw2)
