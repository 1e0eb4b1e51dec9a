/-! wipe, drop, rule -/
theorem so_b0 : vp_nar .boolean 0 = 0 := rfl
theorem so_b1 : vp_nar .boolean 1 = 1 := rfl
theorem so_n0 : vp_nar .byte 0 = nI 0 := yg_nar (m := 0) (by omega)
theorem rl_S_empty {A O B C : Nat → Int32} {K : Nat → Nat → Nat} {len : Nat → Nat} {r : Nat} (hA : ∀ c, c < 32 → A (32 * r + c) = 27) : rl_S A O B C (upS K r (fun _ => 27)) (upS len r 0) r := by
  unfold rl_S
  rw [upS_s, upS_s]
  exact ⟨by omega, fun _ _ => rfl, fun x hx => hA x hx, fun x hx => absurd hx (by omega), fun i hi => absurd hi (by omega)⟩
theorem i_vc_wipe {k : Nat} {u : SX} {v : SY} (I : i_Rel k u v) (hk : k + 4 ≤ 2048) : wpX_wipe (fun r u' => wpY_wipe (fun r' v' => r' = r ∧ i_Rel (k + 4) u' v') v) u := by
  refine i_elim (Q := fun u v => wpX_wipe (fun r u' => wpY_wipe (fun r' v' => r' = r ∧ i_Rel (k + 4) u' v') v) u) I ?_
  intro n K len g f_innermost f_wrongToken f_wantedCount f_inCondition f_depth f_cursor f_outcome f_outputCount f_stepsTaken a_names a_values a_parents a_kinds a_operands a_priorities a_givenAt a_wanted a_axes a_passing a_ends a_openers a_table a_results a_matched a_listLeft a_listNode a_listPosition a_listSize a_listBody a_listReturn a_outputs g_listed g_depth g_row g_pc g_node g_position g_size g_fault b_kind b_with b_count b_bodyAt b_given b_there b_wanted b_waiting b_within b_list b_left b_reached b_sizes b_each b_backRow b_backPc b_backNode b_backPosition b_backSize R
  obtain ⟨h1, h2, h3, h4, h5, h6, h7⟩ := rl_up (k' := k + 4) (by omega) R
  unfold wpX_wipe
  refine xo_empty (s0 := 192) (by omega) fun A hA fr => ?_
  refine nm_r (e' := nI (len 6)) h5 (nm_r (e' := upd b_count 6 (nI 0)) (by rw [so_n0]) ⟨rfl, ?_⟩)
  have e : upS len 6 0 6 = 0 := upS_s
  have := fun h => i_mk (k := k + 4) (n := n) (g := g) (K := upS K 6 (fun _ => 27)) (len := upS len 6 0) (f_innermost := f_innermost) (f_wrongToken := f_wrongToken) (f_wantedCount := f_wantedCount) (f_inCondition := f_inCondition) (f_depth := f_depth) (f_cursor := f_cursor) (f_outcome := f_outcome) (f_outputCount := f_outputCount) (f_stepsTaken := f_stepsTaken) (a_names := a_names) (a_values := a_values) (a_parents := a_parents) (a_kinds := A) (a_operands := a_operands) (a_priorities := a_priorities) (a_givenAt := a_givenAt) (a_wanted := a_wanted) (a_axes := a_axes) (a_passing := a_passing) (a_ends := a_ends) (a_openers := a_openers) (a_table := a_table) (a_results := a_results) (a_matched := a_matched) (a_listLeft := a_listLeft) (a_listNode := a_listNode) (a_listPosition := a_listPosition) (a_listSize := a_listSize) (a_listBody := a_listBody) (a_listReturn := a_listReturn) (a_outputs := a_outputs) (g_listed := g_listed) (g_depth := g_depth) (g_row := g_row) (g_pc := g_pc) (g_node := g_node) (g_position := g_position) (g_size := g_size) (g_fault := g_fault) (b_kind := b_kind) (b_with := b_with) (b_count := upd b_count 6 (nI 0)) (b_bodyAt := b_bodyAt) (b_given := b_given) (b_there := b_there) (b_wanted := b_wanted) (b_waiting := b_waiting) (b_within := b_within) (b_list := b_list) (b_left := b_left) (b_reached := b_reached) (b_sizes := b_sizes) (b_each := b_each) (b_backRow := b_backRow) (b_backPc := b_backPc) (b_backNode := b_backNode) (b_backPosition := b_backPosition) (b_backSize := b_backSize) h
  rw [e] at this
  refine this ⟨h1, h2, h3, h4, by rw [pk_us, e], fun r hr => ?_, fun r hr => ?_⟩
  · by_cases z : r = 6
    · subst z
      exact rl_S_empty hA
    · exact rl_S_keep (h6 r hr) z fr (fun _ _ => rfl) (fun _ _ => rfl) (fun _ _ => rfl)
  · have z : r ≠ 6 := by omega
    refine rl_R_keep ?_ z
    unfold rl_R
    rw [pk_un z]
    exact h7 r hr
section
variable {f_nodeCount f_innermost f_draftLength f_rulesGiven f_wrongToken f_wantedCount f_inCondition f_depth f_cursor f_outcome f_outputCount f_stepsTaken : Int32} {a_names a_values a_parents a_kinds a_operands a_priorities a_givenAt a_wanted a_axes a_passing a_ends a_openers a_table a_results a_matched a_listLeft a_listNode a_listPosition a_listSize a_listBody a_listReturn a_outputs : Nat → Int32}
theorem xo_dropT {post : Int32 → SX → Prop} {r : Nat} (hr : r < 6) (h : ∀ (z : Int32) (A : Nat → Int32), (a_kinds (32 * r) = 27 → z = 0) → (¬ a_kinds (32 * r) = 27 → z = 1) → (∀ c, c < 32 → A (32 * r + c) = 27) → (∀ y, (y < 32 * r ∨ 32 * r + 32 ≤ y) → A y = a_kinds y) → post z (f_nodeCount, f_innermost, f_draftLength, f_rulesGiven, f_wrongToken, f_wantedCount, f_inCondition, f_depth, f_cursor, f_outcome, f_outputCount, f_stepsTaken, a_names, a_values, a_parents, A, a_operands, a_priorities, a_givenAt, a_wanted, a_axes, a_passing, a_ends, a_openers, a_table, a_results, a_matched, a_listLeft, a_listNode, a_listPosition, a_listSize, a_listBody, a_listReturn, a_outputs)) : wpX_drop post (f_nodeCount, f_innermost, f_draftLength, f_rulesGiven, f_wrongToken, f_wantedCount, f_inCondition, f_depth, f_cursor, f_outcome, f_outputCount, f_stepsTaken, a_names, a_values, a_parents, a_kinds, a_operands, a_priorities, a_givenAt, a_wanted, a_axes, a_passing, a_ends, a_openers, a_table, a_results, a_matched, a_listLeft, a_listNode, a_listPosition, a_listSize, a_listBody, a_listReturn, a_outputs) (nI r) := by
  have e : nI r * 32 = nI (32 * r) := by rw [show (32 : Int32) = nI 32 from rfl, pk_mul, Nat.mul_comm]
  have c : (nI (32 * r)).toNatClampNeg = 32 * r := nI_clamp (by omega)
  unfold wpX_drop
  refine xo_ruleT hr (br_f (by decide) ?_)
  unfold wX_drop_29
  rw [e, c]
  refine ⟨vp_in_nI (by omega) (by omega), br_c (fun q => ?_) (fun q => ?_)⟩
  · exact xo_empty (by omega) fun A h1 h2 => ⟨rfl, h 0 A (fun _ => rfl) (fun z => absurd q z) h1 h2⟩
  · exact xo_empty (by omega) fun A h1 h2 => ⟨rfl, h 1 A (fun z => absurd z q) (fun _ => rfl) h1 h2⟩
end
section
variable {g_nodes g_inner g_rules g_place g_listed g_depth g_row g_pc g_node g_position g_size g_fault g_put g_steps : Int32} {b_name b_parent b_value b_kind b_with b_count b_bodyAt b_priority b_given b_there b_wanted b_waiting b_within b_list b_left b_reached b_sizes b_each b_backRow b_backPc b_backNode b_backPosition b_backSize b_output : Nat → Int32}
theorem yo_dropT {post : Int32 → SY → Prop} {r : Nat} (hr : r < 6) (h0 : b_there r = 0 → post 0 (g_nodes, g_inner, g_rules, g_place, g_listed, g_depth, g_row, g_pc, g_node, g_position, g_size, g_fault, g_put, g_steps, b_name, b_parent, b_value, b_kind, b_with, b_count, b_bodyAt, b_priority, b_given, b_there, b_wanted, b_waiting, b_within, b_list, b_left, b_reached, b_sizes, b_each, b_backRow, b_backPc, b_backNode, b_backPosition, b_backSize, b_output)) (h1 : ¬ b_there r = 0 → post 1 (g_nodes, g_inner, g_rules, g_place, g_listed, g_depth, g_row, g_pc, g_node, g_position, g_size, g_fault, g_put, g_steps, b_name, b_parent, b_value, b_kind, b_with, b_count, b_bodyAt, b_priority, b_given, upd b_there r 0, b_wanted, b_waiting, b_within, b_list, b_left, b_reached, b_sizes, b_each, b_backRow, b_backPc, b_backNode, b_backPosition, b_backSize, b_output)) : wpY_drop post (g_nodes, g_inner, g_rules, g_place, g_listed, g_depth, g_row, g_pc, g_node, g_position, g_size, g_fault, g_put, g_steps, b_name, b_parent, b_value, b_kind, b_with, b_count, b_bodyAt, b_priority, b_given, b_there, b_wanted, b_waiting, b_within, b_list, b_left, b_reached, b_sizes, b_each, b_backRow, b_backPc, b_backNode, b_backPosition, b_backSize, b_output) (nI r) := by
  have c : (nI r).toNatClampNeg = r := nI_clamp (by omega)
  unfold wpY_drop
  refine yo_outT (n := 6) hr (by omega) (br_t rfl ⟨vp_in_nI hr (by omega), ?_⟩)
  rw [c]
  exact br_c h0 (fun q => ⟨vp_in_nI hr (by omega), nm_r (e' := upd b_there r 0) (by rw [so_b0]) (h1 q)⟩)
end
theorem i_vc_drop {k : Nat} {u : SX} {v : SY} (I : i_Rel k u v) (hk : k + 4 ≤ 2048) (v1 : Int32) : wpX_drop (fun r u' => wpY_drop (fun r' v' => r' = r ∧ i_Rel (k + 4) u' v') v v1) u v1 := by
  refine i_elim (Q := fun u v => wpX_drop (fun r u' => wpY_drop (fun r' v' => r' = r ∧ i_Rel (k + 4) u' v') v v1) u v1) I ?_
  intro n K len g f_innermost f_wrongToken f_wantedCount f_inCondition f_depth f_cursor f_outcome f_outputCount f_stepsTaken a_names a_values a_parents a_kinds a_operands a_priorities a_givenAt a_wanted a_axes a_passing a_ends a_openers a_table a_results a_matched a_listLeft a_listNode a_listPosition a_listSize a_listBody a_listReturn a_outputs g_listed g_depth g_row g_pc g_node g_position g_size g_fault b_kind b_with b_count b_bodyAt b_given b_there b_wanted b_waiting b_within b_list b_left b_reached b_sizes b_each b_backRow b_backPc b_backNode b_backPosition b_backSize R
  obtain ⟨h1, h2, h3, h4, h5, h6, h7⟩ := rl_up (k' := k + 4) (by omega) R
  rcases so_name v1 with q | ⟨r, hr, rfl⟩
  · have Y0 : wpY_drop (fun r' v' => r' = 0 ∧ i_Rel (k + 4) (nI n, f_innermost, nI (len 6), nI g, f_wrongToken, f_wantedCount, f_inCondition, f_depth, f_cursor, f_outcome, f_outputCount, f_stepsTaken, a_names, a_values, a_parents, a_kinds, a_operands, a_priorities, a_givenAt, a_wanted, a_axes, a_passing, a_ends, a_openers, a_table, a_results, a_matched, a_listLeft, a_listNode, a_listPosition, a_listSize, a_listBody, a_listReturn, a_outputs) v') (nI n, f_innermost, nI g, f_wrongToken, g_listed, g_depth, g_row, g_pc, g_node, g_position, g_size, g_fault, f_outputCount, f_stepsTaken, a_names, a_parents, a_values, b_kind, b_with, b_count, b_bodyAt, a_priorities, b_given, b_there, b_wanted, b_waiting, b_within, b_list, b_left, b_reached, b_sizes, b_each, b_backRow, b_backPc, b_backNode, b_backPosition, b_backSize, a_outputs) v1 := by
      unfold wpY_drop
      exact yo_outF (n := 6) q (br_f (by decide) ⟨rfl, i_mk (K := K) ⟨h1, h2, h3, h4, h5, h6, h7⟩⟩)
    unfold wpX_drop
    exact xo_ruleF q (br_t rfl Y0)
  · have r6 : 6 ≠ r := by omega
    have S := h6 r (by omega)
    have k0 : a_kinds (32 * r) = nI (K r 0) := S.2.2.1 0 (by omega)
    have new : ∀ (T : Nat → Int32) (A : Nat → Int32), T r = 0 → (∀ j, j ≠ r → T j = b_there j) → (∀ c, c < 32 → A (32 * r + c) = 27) → (∀ y, (y < 32 * r ∨ 32 * r + 32 ≤ y) → A y = a_kinds y) → rl (k + 4) n (upS K r (fun _ => 27)) (upS len r 0) g f_innermost a_names a_parents A a_operands a_givenAt b_kind b_with b_count b_bodyAt b_given T := by
      intro T A hT hT2 hA fr
      refine ⟨h1, h2, h3, h4, by rw [upS_n r6]; exact h5, fun j hj => ?_, fun j hj => ?_⟩
      · by_cases z : j = r
        · subst z; exact rl_S_empty hA
        · exact rl_S_keep (h6 j hj) z fr (fun _ _ => rfl) (fun _ _ => rfl) (fun _ _ => rfl)
      · by_cases z : j = r
        · subst z
          exact Or.inl ⟨hT, upS_s⟩
        · refine rl_R_keep ?_ z
          unfold rl_R
          rw [hT2 j z]
          exact h7 j hj
    have fin : ∀ (T A : Nat → Int32), rl (k + 4) n (upS K r (fun _ => 27)) (upS len r 0) g f_innermost a_names a_parents A a_operands a_givenAt b_kind b_with b_count b_bodyAt b_given T → i_Rel (k + 4) (nI n, f_innermost, nI (len 6), nI g, f_wrongToken, f_wantedCount, f_inCondition, f_depth, f_cursor, f_outcome, f_outputCount, f_stepsTaken, a_names, a_values, a_parents, A, a_operands, a_priorities, a_givenAt, a_wanted, a_axes, a_passing, a_ends, a_openers, a_table, a_results, a_matched, a_listLeft, a_listNode, a_listPosition, a_listSize, a_listBody, a_listReturn, a_outputs) (nI n, f_innermost, nI g, f_wrongToken, g_listed, g_depth, g_row, g_pc, g_node, g_position, g_size, g_fault, f_outputCount, f_stepsTaken, a_names, a_parents, a_values, b_kind, b_with, b_count, b_bodyAt, a_priorities, b_given, T, b_wanted, b_waiting, b_within, b_list, b_left, b_reached, b_sizes, b_each, b_backRow, b_backPc, b_backNode, b_backPosition, b_backSize, a_outputs) := by
      intro T A h
      have e : upS len r 0 6 = len 6 := upS_n r6
      rw [← e]
      exact i_mk (K := upS K r (fun _ => 27)) h
    rcases h7 r hr with ⟨t0, l0⟩ | ⟨t1, W, w15, wl, _⟩
    · have k27 : a_kinds (32 * r) = 27 := by rw [k0, S.2.1 0 (by omega)]; rfl
      exact xo_dropT hr fun z A z0 z1 hA fr => yo_dropT hr (fun _ => ⟨(z0 k27).symm, fin b_there A (new b_there A t0 (fun _ _ => rfl) hA fr)⟩) (fun q => absurd t0 q)
    · have k27 : ¬ a_kinds (32 * r) = 27 := by rw [k0, w15]; decide
      have t0 : ¬ b_there r = 0 := by rw [t1]; decide
      exact xo_dropT hr fun z A z0 z1 hA fr => yo_dropT hr (fun q => absurd q t0) (fun _ => ⟨(z1 k27).symm, fin _ A (new _ A pk_us (fun j hj => pk_un hj) hA fr)⟩)
