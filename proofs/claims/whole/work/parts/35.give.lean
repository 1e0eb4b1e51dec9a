/-! rule -/
section
variable {f_nodeCount f_innermost f_draftLength f_rulesGiven f_wrongToken f_wantedCount f_inCondition f_depth f_cursor f_outcome f_outputCount f_stepsTaken : Int32} {a_names a_values a_parents a_kinds a_operands a_priorities a_givenAt a_wanted a_axes a_passing a_ends a_openers a_table a_results a_matched a_listLeft a_listNode a_listPosition a_listSize a_listBody a_listReturn a_outputs : Nat → Int32}
theorem xo_copy_l {post : SX → Prop} {s0 : Nat} (hs : s0 + 32 ≤ 192) (hp : ∀ A O : Nat → Int32, (∀ c, c < 32 → A (s0 + c) = a_kinds (192 + c) ∧ O (s0 + c) = a_operands (192 + c)) → (∀ y, (y < s0 ∨ s0 + 32 ≤ y) → A y = a_kinds y ∧ O y = a_operands y) → post (f_nodeCount, f_innermost, f_draftLength, f_rulesGiven, f_wrongToken, f_wantedCount, f_inCondition, f_depth, f_cursor, f_outcome, f_outputCount, f_stepsTaken, a_names, a_values, a_parents, A, O, a_priorities, a_givenAt, a_wanted, a_axes, a_passing, a_ends, a_openers, a_table, a_results, a_matched, a_listLeft, a_listNode, a_listPosition, a_listSize, a_listBody, a_listReturn, a_outputs)) :
    ∀ d i f A O, i + d = 32 → d < f → (∀ c, c < i → A (s0 + c) = a_kinds (192 + c) ∧ O (s0 + c) = a_operands (192 + c)) → (∀ y, (y < s0 ∨ s0 + 32 ≤ y) → A y = a_kinds y ∧ O y = a_operands y) → wX_copyDraft_2 post (nI s0) f_nodeCount f_innermost f_draftLength f_rulesGiven f_wrongToken f_wantedCount f_inCondition f_depth f_cursor f_outcome f_outputCount f_stepsTaken f (nI i) a_names a_values a_parents A O a_priorities a_givenAt a_wanted a_axes a_passing a_ends a_openers a_table a_results a_matched a_listLeft a_listNode a_listPosition a_listSize a_listBody a_listReturn a_outputs := by
  intro d
  induction d with
  | zero =>
    intro i f A O hi hf h1 h2
    obtain ⟨f, rfl⟩ : ∃ x, f = x + 1 := ⟨f - 1, by omega⟩
    have e : i = 32 := by omega
    subst e
    exact br_t (by decide) (hp A O h1 h2)
  | succ d ih =>
    intro i f A O hi hf h1 h2
    obtain ⟨f, rfl⟩ : ∃ x, f = x + 1 := ⟨f - 1, by omega⟩
    have e : nI s0 + nI i = nI (s0 + i) := nI_add s0 i
    have e2 : (192 : Int32) + nI i = nI (192 + i) := nI_add 192 i
    have c1 : (nI (s0 + i)).toNatClampNeg = s0 + i := nI_clamp (by omega)
    have c2 : (nI (192 + i)).toNatClampNeg = 192 + i := nI_clamp (by omega)
    have v1 : vp_in (nI s0 + nI i) 224 := by rw [e]; exact vp_in_nI (by omega) (by omega)
    have v2 : vp_in (192 + nI i) 224 := by rw [e2]; exact vp_in_nI (by omega) (by omega)
    have src := h2 (192 + i) (by omega)
    refine br_f (nI_ge (b := 32) (by omega) (by decide)) ⟨v2, v1, nm_r (e' := upd A (s0 + i) (a_kinds (192 + i))) (by rw [e, e2, c1, c2, src.1]) ⟨v2, v1, nm_r (e' := upd O (s0 + i) (a_operands (192 + i))) (by rw [e, e2, c1, c2, src.2]) (nm_r (nI_1 i) (ih (i + 1) f _ _ (by omega) (by omega) (fun c hc => ?_) (fun y hy => ?_)))⟩⟩
    · rcases Nat.lt_or_ge c i with z | z
      · rw [pk_un (by omega), pk_un (by omega)]; exact h1 c z
      · have : c = i := by omega
        rw [this, pk_us, pk_us]; exact ⟨rfl, rfl⟩
    · rw [pk_un (by omega), pk_un (by omega)]; exact h2 y hy
theorem xo_copy {post : SX → Prop} {s0 : Nat} (hs : s0 + 32 ≤ 192) (hp : ∀ A O : Nat → Int32, (∀ c, c < 32 → A (s0 + c) = a_kinds (192 + c) ∧ O (s0 + c) = a_operands (192 + c)) → (∀ y, (y < s0 ∨ s0 + 32 ≤ y) → A y = a_kinds y ∧ O y = a_operands y) → post (f_nodeCount, f_innermost, f_draftLength, f_rulesGiven, f_wrongToken, f_wantedCount, f_inCondition, f_depth, f_cursor, f_outcome, f_outputCount, f_stepsTaken, a_names, a_values, a_parents, A, O, a_priorities, a_givenAt, a_wanted, a_axes, a_passing, a_ends, a_openers, a_table, a_results, a_matched, a_listLeft, a_listNode, a_listPosition, a_listSize, a_listBody, a_listReturn, a_outputs)) : wpX_copyDraft post (f_nodeCount, f_innermost, f_draftLength, f_rulesGiven, f_wrongToken, f_wantedCount, f_inCondition, f_depth, f_cursor, f_outcome, f_outputCount, f_stepsTaken, a_names, a_values, a_parents, a_kinds, a_operands, a_priorities, a_givenAt, a_wanted, a_axes, a_passing, a_ends, a_openers, a_table, a_results, a_matched, a_listLeft, a_listNode, a_listPosition, a_listSize, a_listBody, a_listReturn, a_outputs) (nI s0) :=
  ⟨33, xo_copy_l hs hp 32 0 33 a_kinds a_operands rfl (by omega) (fun c hc => absurd hc (by omega)) (fun _ _ => ⟨rfl, rfl⟩)⟩
/-- the class's rule, its draft wrong at p or allowed -/
theorem xo_rule {post : Int32 → SX → Prop} {K6 : Nat → Nat} {l6 r gg : Nat} {v2 : Int32} (hr : r < 6) (hl : l6 ≤ 30) (hk : xs_k a_kinds 192 K6) (h100 : ∀ i, i < l6 → K6 i < 100)
    (hN : gm_run K6 l6 0 [3, 0] = none → ∀ (wc ic : Int32) (w A O : Nat → Int32), (∀ c, c < 32 → A (32 * r + c) = a_kinds (192 + c) ∧ O (32 * r + c) = a_operands (192 + c)) → (∀ c, c < 32 → A (192 + c) = 27) → (∀ y, y < 192 → (y < 32 * r ∨ 32 * r + 32 ≤ y) → A y = a_kinds y ∧ O y = a_operands y) →
      post 0 (f_nodeCount, f_innermost, 0, nI (gg + 1), f_wrongToken, wc, ic, f_depth, f_cursor, f_outcome, f_outputCount, f_stepsTaken, a_names, a_values, a_parents, A, O, upd a_priorities r v2, upd a_givenAt r (nI gg), w, a_axes, a_passing, a_ends, a_openers, a_table, a_results, a_matched, a_listLeft, a_listNode, a_listPosition, a_listSize, a_listBody, a_listReturn, a_outputs))
    (hS : ∀ p, gm_run K6 l6 0 [3, 0] = some p → ∀ (wc ic : Int32) (w A : Nat → Int32), (∀ c, c < 32 → A (192 + c) = 27) → (∀ y, y < 192 → A y = a_kinds y) → post 3 (f_nodeCount, f_innermost, 0, nI gg, nI p, wc, ic, f_depth, f_cursor, f_outcome, f_outputCount, f_stepsTaken, a_names, a_values, a_parents, A, a_operands, a_priorities, a_givenAt, w, a_axes, a_passing, a_ends, a_openers, a_table, a_results, a_matched, a_listLeft, a_listNode, a_listPosition, a_listSize, a_listBody, a_listReturn, a_outputs)) :
    wpX_rule post (f_nodeCount, f_innermost, nI l6, nI gg, f_wrongToken, f_wantedCount, f_inCondition, f_depth, f_cursor, f_outcome, f_outputCount, f_stepsTaken, a_names, a_values, a_parents, a_kinds, a_operands, a_priorities, a_givenAt, a_wanted, a_axes, a_passing, a_ends, a_openers, a_table, a_results, a_matched, a_listLeft, a_listNode, a_listPosition, a_listSize, a_listBody, a_listReturn, a_outputs) (nI r) v2 := by
  have e : nI r * 32 = nI (32 * r) := by rw [show (32 : Int32) = nI 32 from rfl, pk_mul, Nat.mul_comm]
  have c : (nI r).toNatClampNeg = r := nI_clamp (by omega)
  have vi : vp_in (nI r) 6 := vp_in_nI hr (by omega)
  unfold wpX_rule
  refine xo_ruleT hr (br_f (by decide) ?_)
  refine xg_draftIs (p0 := 1) (p1 := 4) (z := true) (b := []) (s := [3, 0]) (Or.inl ⟨rfl, rfl⟩) hl hk h100 (by simp [sk_ok, sk_out]) (by decide) rfl (fun q wc ic w => br_f (by decide) ?_) (fun p q wc ic w => br_t rfl ?_)
  · rw [e]
    refine xo_copy (by omega) fun A O h1 h2 => ⟨vi, nm_r (e' := upd a_priorities r v2) (by rw [c]) ⟨vi, nm_r (e' := upd a_givenAt r (nI gg)) (by rw [c]) (nm_r (nI_1 gg) ?_)⟩⟩
    unfold wX_rule_56
    refine xo_empty (s0 := 192) (by omega) fun A' g1 g2 => br_f (by decide) (hN q wc ic w A' O (fun x hx => ?_) g1 (fun y y1 y2 => ?_))
    · rw [g2 _ (Or.inl (by omega))]; exact h1 x hx
    · rw [g2 y (Or.inl y1)]; exact h2 y y2
  · unfold wX_rule_56
    exact xo_empty (s0 := 192) (by omega) fun A' g1 g2 => br_t rfl (hS p q wc ic w A' g1 (fun y y1 => g2 y (Or.inl y1)))
end
section
variable {g_nodes g_inner g_rules g_place g_listed g_depth g_row g_pc g_node g_position g_size g_fault g_put g_steps : Int32} {b_name b_parent b_value b_kind b_with b_count b_bodyAt b_priority b_given b_there b_wanted b_waiting b_within b_list b_left b_reached b_sizes b_each b_backRow b_backPc b_backNode b_backPosition b_backSize b_output : Nat → Int32}
theorem yo_copy_l {post : Int32 → SY → Prop} {r l6 e0 : Nat} {K6 : Nat → Nat} {O6 : Nat → Int32} (hr : r < 6) (W : gm_W K6 l6) (k15 : K6 0 = 15) (he : gm_e K6 0 = e0) (hel : e0 ≤ l6) (h6 : ys_k b_kind b_with 180 K6 O6 l6)
    (hp : ∀ B C : Nat → Int32, ys_k B C (30 * r) K6 O6 l6 → (∀ y, (y < 30 * r ∨ 30 * r + 30 ≤ y) → B y = b_kind y ∧ C y = b_with y) → post 0 (g_nodes, g_inner, g_rules, g_place, g_listed, g_depth, g_row, g_pc, g_node, g_position, g_size, g_fault, g_put, g_steps, b_name, b_parent, b_value, B, C, b_count, upd b_bodyAt r (nI e0), b_priority, b_given, b_there, b_wanted, b_waiting, b_within, b_list, b_left, b_reached, b_sizes, b_each, b_backRow, b_backPc, b_backNode, b_backPosition, b_backSize, b_output)) :
    ∀ d i f B C, i + d = l6 → d < f → (∀ c, c < i → B (30 * r + c) = nI (K6 c) ∧ C (30 * r + c) = O6 c) → (∀ y, (y < 30 * r ∨ 30 * r + 30 ≤ y) → B y = b_kind y ∧ C y = b_with y) → wY_rule_77 post (nI r) (nI l6) g_nodes g_inner g_rules g_place g_listed g_depth g_row g_pc g_node g_position g_size g_fault g_put g_steps f (nI i) b_name b_parent b_value B C b_count b_bodyAt b_priority b_given b_there b_wanted b_waiting b_within b_list b_left b_reached b_sizes b_each b_backRow b_backPc b_backNode b_backPosition b_backSize b_output := by
  have hl := W.1
  have e30 : (30 : Int32) * nI r = nI (30 * r) := by rw [show (30 : Int32) = nI 30 from rfl, pk_mul]
  have cr : (nI r).toNatClampNeg = r := nI_clamp (by omega)
  intro d
  induction d with
  | zero =>
    intro i f B C hi hf h1 h2
    obtain ⟨f, rfl⟩ : ∃ x, f = x + 1 := ⟨f - 1, by omega⟩
    have e : i = l6 := by omega
    subst e
    refine br_t (nI_le (Nat.le_refl _) (by omega)) ?_
    rw [e30, nI_add]
    have := yw_pathEnd (b_kind := B) (b_with := C) (y := 30 * r) (i := 0) (en := i) (K := K6) (O := O6) (len := i) (post := fun r_92 => (vp_in (nI r) 6 ∧ ∀ a_bodyAt_132 : Nat → Int32, a_bodyAt_132 = upd b_bodyAt (nI r).toNatClampNeg (vp_nar .byte ((r_92 - nI (30 * r)).toInt8.toInt32)) → post 0 (g_nodes, g_inner, g_rules, g_place, g_listed, g_depth, g_row, g_pc, g_node, g_position, g_size, g_fault, g_put, g_steps, b_name, b_parent, b_value, B, C, b_count, a_bodyAt_132, b_priority, b_given, b_there, b_wanted, b_waiting, b_within, b_list, b_left, b_reached, b_sizes, b_each, b_backRow, b_backPc, b_backNode, b_backPosition, b_backSize, b_output))) (g_nodes := g_nodes) (g_inner := g_inner) (g_rules := g_rules) (g_place := g_place) (g_listed := g_listed) (g_depth := g_depth) (g_row := g_row) (g_pc := g_pc) (g_node := g_node) (g_position := g_position) (g_size := g_size) (g_fault := g_fault) (g_put := g_put) (g_steps := g_steps) (b_name := b_name) (b_parent := b_parent) (b_value := b_value) (b_count := b_count) (b_bodyAt := b_bodyAt) (b_priority := b_priority) (b_given := b_given) (b_there := b_there) (b_wanted := b_wanted) (b_waiting := b_waiting) (b_within := b_within) (b_list := b_list) (b_left := b_left) (b_reached := b_reached) (b_sizes := b_sizes) (b_each := b_each) (b_backRow := b_backRow) (b_backPc := b_backPc) (b_backNode := b_backNode) (b_backPosition := b_backPosition) (b_backSize := b_backSize) (b_output := b_output) W (by omega) h1 (Nat.le_refl _) k15 (by rw [he]; exact hel) ⟨vp_in_nI hr (by omega), nm_r (e' := upd b_bodyAt r (nI e0)) ?_ (hp B C h1 h2)⟩
    · exact this
    · rw [cr, he, pk_sub (by omega), show 30 * r + e0 - 30 * r = e0 by omega, yw_nar (by omega)]
  | succ d ih =>
    intro i f B C hi hf h1 h2
    obtain ⟨f, rfl⟩ : ∃ x, f = x + 1 := ⟨f - 1, by omega⟩
    have e : (30 : Int32) * nI r + nI i = nI (30 * r + i) := by rw [e30, nI_add]
    have e2 : (180 : Int32) + nI i = nI (180 + i) := nI_add 180 i
    have c1 : (nI (30 * r + i)).toNatClampNeg = 30 * r + i := nI_clamp (by omega)
    have c2 : (nI (180 + i)).toNatClampNeg = 180 + i := nI_clamp (by omega)
    have v1 : vp_in ((30 : Int32) * nI r + nI i) 210 := by rw [e]; exact vp_in_nI (by omega) (by omega)
    have v2 : vp_in (180 + nI i) 210 := by rw [e2]; exact vp_in_nI (by omega) (by omega)
    have src := h2 (180 + i) (by omega)
    have k6 := h6 i (by omega)
    have k27 := gm_k26 W i
    refine br_f (nI_ge (by omega) (by omega)) ⟨v2, v1, nm_r (e' := upd B (30 * r + i) (nI (K6 i))) (by rw [e, e2, c1, c2, src.1, k6.1, yg_nar (by omega)]) ⟨v2, v1, nm_r (e' := upd C (30 * r + i) (O6 i)) (by rw [e, e2, c1, c2, src.2, k6.2]) (nm_r (nI_1 i) (ih (i + 1) f _ _ (by omega) (by omega) (fun c hc => ?_) (fun y hy => ?_)))⟩⟩
    · rcases Nat.lt_or_ge c i with z | z
      · rw [pk_un (by omega), pk_un (by omega)]; exact h1 c z
      · have : c = i := by omega
        rw [this, pk_us, pk_us]; exact ⟨rfl, rfl⟩
    · rw [pk_un (by omega), pk_un (by omega)]; exact h2 y hy
theorem yo_rule {post : Int32 → SY → Prop} {K6 : Nat → Nat} {O6 : Nat → Int32} {l6 r gg : Nat} {v2 : Int32} (hr : r < 6) (hl : l6 ≤ 30) (hk : ys_k b_kind b_with 180 K6 O6 l6) (hc : b_count 6 = nI l6) (h27 : ∀ i, l6 ≤ i → K6 i = 27) (h100 : ∀ i, i < l6 → K6 i < 100)
    (hN : gm_run K6 l6 0 [3, 0] = none → ∀ w B C : Nat → Int32, ys_k B C (30 * r) K6 O6 l6 → (∀ y, (y < 30 * r ∨ 30 * r + 30 ≤ y) → B y = b_kind y ∧ C y = b_with y) →
      post 0 (g_nodes, g_inner, nI (gg + 1), g_place, g_listed, g_depth, g_row, g_pc, g_node, g_position, g_size, g_fault, g_put, g_steps, b_name, b_parent, b_value, B, C, upd (upd b_count 6 (nI 0)) r (nI l6), upd b_bodyAt r (nI (gm_e K6 0)), upd b_priority r v2, upd b_given r (nI (gg + 1)), upd b_there r 1, w, b_waiting, b_within, b_list, b_left, b_reached, b_sizes, b_each, b_backRow, b_backPc, b_backNode, b_backPosition, b_backSize, b_output))
    (hS : ∀ p, gm_run K6 l6 0 [3, 0] = some p → ∀ w : Nat → Int32, p < 100 → post 3 (g_nodes, g_inner, nI gg, nI p, g_listed, g_depth, g_row, g_pc, g_node, g_position, g_size, g_fault, g_put, g_steps, b_name, b_parent, b_value, b_kind, b_with, upd b_count 6 (nI 0), b_bodyAt, b_priority, b_given, b_there, w, b_waiting, b_within, b_list, b_left, b_reached, b_sizes, b_each, b_backRow, b_backPc, b_backNode, b_backPosition, b_backSize, b_output)) :
    wpY_rule post (g_nodes, g_inner, nI gg, g_place, g_listed, g_depth, g_row, g_pc, g_node, g_position, g_size, g_fault, g_put, g_steps, b_name, b_parent, b_value, b_kind, b_with, b_count, b_bodyAt, b_priority, b_given, b_there, b_wanted, b_waiting, b_within, b_list, b_left, b_reached, b_sizes, b_each, b_backRow, b_backPc, b_backNode, b_backPosition, b_backSize, b_output) (nI r) v2 := by
  have cr : (nI r).toNatClampNeg = r := nI_clamp (by omega)
  unfold wpY_rule
  refine yo_outT (n := 6) hr (by omega) (br_t rfl ?_)
  refine yg_misfit0 hl hk hc h100 (fun q w => ?_) (fun p q w => ?_)
  · obtain ⟨W, k15, e1, e2, e3⟩ := gm_W_rule hl h27 (gm_run_n _ _ _ q)
    refine nm_r (e' := nI l6) hc (nm_r (e' := upd b_count 6 (nI 0)) (by rw [so_n0]) (br_t (by decide) ⟨vp_in_nI (by omega) (by omega), nm_r (e' := upd (upd b_count 6 (nI 0)) r (nI l6)) (by rw [cr, yw_nar (by omega)]) ⟨vp_in_nI hr (by omega), nm_r (e' := upd b_there r 1) (by rw [cr, so_b1]) ⟨vp_in_nI hr (by omega), nm_r (e' := upd b_priority r v2) (by rw [cr]) (nm_r (nI_1 gg) ⟨vp_in_nI hr (by omega), nm_r (e' := upd b_given r (nI (gg + 1))) (by rw [cr, nI_1]) ⟨l6 + 1, ?_⟩⟩)⟩⟩⟩))
    exact yo_copy_l hr W k15 rfl e2 hk (hN q w) l6 0 (l6 + 1) b_kind b_with (by omega) (by omega) (fun c hc => absurd hc (by omega)) (fun _ _ => ⟨rfl, rfl⟩)
  · have p100 : p < 100 := by
      have : ∀ d i s p, gm_run K6 d i s = some p → p ≤ i + d := by
        intro d
        induction d with
        | zero =>
          intro i s p h
          rw [gm_run] at h
          split at h
          · exact nomatch h
          · cases h; omega
        | succ d ih =>
          intro i s p h
          rw [gm_run] at h
          split at h
          · cases h; omega
          · have := ih _ _ _ h; omega
      have := this l6 0 [3, 0] p q
      omega
    exact nm_e (nm_r (e' := upd b_count 6 (nI 0)) (by rw [so_n0]) (br_f (nI_pos (by omega)) (hS p q w p100)))
end
theorem i_vc_rule {k : Nat} {u : SX} {v : SY} (I : i_Rel k u v) (hk : k + 4 ≤ 2048) (v1 : Int32) (v2 : Int32) : wpX_rule (fun r u' => wpY_rule (fun r' v' => r' = r ∧ i_Rel (k + 4) u' v') v v1 v2) u v1 v2 := by
  refine i_elim (Q := fun u v => wpX_rule (fun r u' => wpY_rule (fun r' v' => r' = r ∧ i_Rel (k + 4) u' v') v v1 v2) u v1 v2) I ?_
  intro n K len g f_innermost f_wrongToken f_wantedCount f_inCondition f_depth f_cursor f_outcome f_outputCount f_stepsTaken a_names a_values a_parents a_kinds a_operands a_priorities a_givenAt a_wanted a_axes a_passing a_ends a_openers a_table a_results a_matched a_listLeft a_listNode a_listPosition a_listSize a_listBody a_listReturn a_outputs g_listed g_depth g_row g_pc g_node g_position g_size g_fault b_kind b_with b_count b_bodyAt b_given b_there b_wanted b_waiting b_within b_list b_left b_reached b_sizes b_each b_backRow b_backPc b_backNode b_backPosition b_backSize R
  have hg := R.2.2.2.1
  obtain ⟨h1, h2, h3, h4, h5, h6, h7⟩ := rl_up (k' := k + 4) (by omega) R
  rcases so_name v1 with q | ⟨r, hr, rfl⟩
  · have Y0 : wpY_rule (fun r' v' => r' = -1 ∧ i_Rel (k + 4) (nI n, f_innermost, nI (len 6), nI g, f_wrongToken, f_wantedCount, f_inCondition, f_depth, f_cursor, f_outcome, f_outputCount, f_stepsTaken, a_names, a_values, a_parents, a_kinds, a_operands, a_priorities, a_givenAt, a_wanted, a_axes, a_passing, a_ends, a_openers, a_table, a_results, a_matched, a_listLeft, a_listNode, a_listPosition, a_listSize, a_listBody, a_listReturn, a_outputs) v') (nI n, f_innermost, nI g, f_wrongToken, g_listed, g_depth, g_row, g_pc, g_node, g_position, g_size, g_fault, f_outputCount, f_stepsTaken, a_names, a_parents, a_values, b_kind, b_with, b_count, b_bodyAt, a_priorities, b_given, b_there, b_wanted, b_waiting, b_within, b_list, b_left, b_reached, b_sizes, b_each, b_backRow, b_backPc, b_backNode, b_backPosition, b_backSize, a_outputs) v1 v2 := by
      unfold wpY_rule
      exact yo_outF (n := 6) q (br_f (by decide) ⟨rfl, i_mk (K := K) ⟨h1, h2, h3, h4, h5, h6, h7⟩⟩)
    unfold wpX_rule
    exact xo_ruleF q (br_t rfl Y0)
  · have r6 : 6 ≠ r := by omega
    obtain ⟨s1, s2, s3, s4, s5⟩ := h6 6 (by omega)
    have h100 : ∀ i, i < len 6 → K 6 i < 100 := fun i hi => by have := (s5 i hi).1; omega
    have e0 : (0 : Int32) = nI 0 := rfl
    refine xo_rule (K6 := K 6) (l6 := len 6) hr s1 s3 h100 (fun q wc ic w A O hA h27 fr => ?_) (fun p q wc ic w A h27 fr => ?_)
    · refine yo_rule (K6 := K 6) (l6 := len 6) hr s1 s4 h5 s2 h100 (fun _ w' B C hB frB => ⟨rfl, ?_⟩) (fun p q' => by rw [q] at q'; exact nomatch q')
      obtain ⟨W, k15, e1, e2, e3⟩ := gm_W_rule s1 s2 (gm_run_n _ _ _ q)
      have l6 : upS (upS len r (len 6)) 6 0 6 = 0 := upS_s
      have := fun h => i_mk (k := k + 4) (n := n) (g := g + 1) (K := upS (upS K r (K 6)) 6 (fun _ => 27)) (len := upS (upS len r (len 6)) 6 0) (f_innermost := f_innermost) (f_wrongToken := f_wrongToken) (f_wantedCount := wc) (f_inCondition := ic) (f_depth := f_depth) (f_cursor := f_cursor) (f_outcome := f_outcome) (f_outputCount := f_outputCount) (f_stepsTaken := f_stepsTaken) (a_names := a_names) (a_values := a_values) (a_parents := a_parents) (a_kinds := A) (a_operands := O) (a_priorities := upd a_priorities r v2) (a_givenAt := upd a_givenAt r (nI g)) (a_wanted := w) (a_axes := a_axes) (a_passing := a_passing) (a_ends := a_ends) (a_openers := a_openers) (a_table := a_table) (a_results := a_results) (a_matched := a_matched) (a_listLeft := a_listLeft) (a_listNode := a_listNode) (a_listPosition := a_listPosition) (a_listSize := a_listSize) (a_listBody := a_listBody) (a_listReturn := a_listReturn) (a_outputs := a_outputs) (g_listed := g_listed) (g_depth := g_depth) (g_row := g_row) (g_pc := g_pc) (g_node := g_node) (g_position := g_position) (g_size := g_size) (g_fault := g_fault) (b_kind := B) (b_with := C) (b_count := upd (upd b_count 6 (nI 0)) r (nI (len 6))) (b_bodyAt := upd b_bodyAt r (nI (gm_e (K 6) 0))) (b_given := upd b_given r (nI (g + 1))) (b_there := upd b_there r 1) (b_wanted := w') (b_waiting := b_waiting) (b_within := b_within) (b_list := b_list) (b_left := b_left) (b_reached := b_reached) (b_sizes := b_sizes) (b_each := b_each) (b_backRow := b_backRow) (b_backPc := b_backPc) (b_backNode := b_backNode) (b_backPosition := b_backPosition) (b_backSize := b_backSize) h
      rw [l6] at this
      refine this ⟨h1, h2, h3, by omega, by rw [l6, pk_un r6, pk_us], fun j hj => ?_, fun j hj => ?_⟩
      · by_cases z6 : j = 6
        · subst z6
          exact rl_S_empty (fun c hc => h27 c hc)
        · by_cases zr : j = r
          · subst zr
            unfold rl_S
            rw [upS_n z6, upS_n z6, upS_s, upS_s]
            refine ⟨s1, s2, fun x hx => ?_, fun x hx => ?_, fun i hi => ?_⟩
            · rw [(hA x hx).1]; exact s3 x hx
            · refine ⟨(hB x hx).1, ?_⟩
              show C (30 * j + x) = O (32 * j + x)
              rw [(hB x hx).2, (hA x (by omega)).2]
            · rw [(hA i (by omega)).2]; exact s5 i hi
          · unfold rl_S
            rw [upS_n z6, upS_n z6, upS_n zr, upS_n zr]
            obtain ⟨g1, g2, g3, g4, g5⟩ := h6 j hj
            refine ⟨g1, g2, fun x hx => ?_, fun x hx => ?_, fun i hi => ?_⟩
            · rw [(fr _ (by omega) (by omega)).1]; exact g3 x hx
            · show B (30 * j + x) = nI (K j x) ∧ C (30 * j + x) = O (32 * j + x)
              rw [(frB _ (by omega)).1, (frB _ (by omega)).2, (fr _ (by omega) (by omega)).2]
              exact g4 x hx
            · rw [(fr _ (by omega) (by omega)).2]; exact g5 i hi
      · have z6 : j ≠ 6 := by omega
        unfold rl_R
        rw [upS_n z6, upS_n z6]
        by_cases zr : j = r
        · subst zr
          rw [upS_s, upS_s, pk_us, pk_us, pk_us, pk_us, pk_us]
          exact Or.inr ⟨rfl, W, k15, by omega, e3, rfl, rfl, g, by omega, rfl, rfl⟩
        · rw [upS_n zr, upS_n zr, pk_un zr, pk_un zr, pk_un zr, pk_un zr, pk_un zr, pk_un z6]
          exact h7 j hj
    · refine yo_rule (K6 := K 6) (l6 := len 6) hr s1 s4 h5 s2 h100 (fun q' => by rw [q] at q'; exact nomatch q') (fun p' q' w' hp' => ⟨rfl, ?_⟩)
      have pp : p' = p := by rw [q] at q'; cases q'; rfl
      subst pp
      have l6 : upS len 6 0 6 = 0 := upS_s
      have := fun h => i_mk (k := k + 4) (n := n) (g := g) (K := upS K 6 (fun _ => 27)) (len := upS len 6 0) (f_innermost := f_innermost) (f_wrongToken := nI p') (f_wantedCount := wc) (f_inCondition := ic) (f_depth := f_depth) (f_cursor := f_cursor) (f_outcome := f_outcome) (f_outputCount := f_outputCount) (f_stepsTaken := f_stepsTaken) (a_names := a_names) (a_values := a_values) (a_parents := a_parents) (a_kinds := A) (a_operands := a_operands) (a_priorities := a_priorities) (a_givenAt := a_givenAt) (a_wanted := w) (a_axes := a_axes) (a_passing := a_passing) (a_ends := a_ends) (a_openers := a_openers) (a_table := a_table) (a_results := a_results) (a_matched := a_matched) (a_listLeft := a_listLeft) (a_listNode := a_listNode) (a_listPosition := a_listPosition) (a_listSize := a_listSize) (a_listBody := a_listBody) (a_listReturn := a_listReturn) (a_outputs := a_outputs) (g_listed := g_listed) (g_depth := g_depth) (g_row := g_row) (g_pc := g_pc) (g_node := g_node) (g_position := g_position) (g_size := g_size) (g_fault := g_fault) (b_kind := b_kind) (b_with := b_with) (b_count := upd b_count 6 (nI 0)) (b_bodyAt := b_bodyAt) (b_given := b_given) (b_there := b_there) (b_wanted := w') (b_waiting := b_waiting) (b_within := b_within) (b_list := b_list) (b_left := b_left) (b_reached := b_reached) (b_sizes := b_sizes) (b_each := b_each) (b_backRow := b_backRow) (b_backPc := b_backPc) (b_backNode := b_backNode) (b_backPosition := b_backPosition) (b_backSize := b_backSize) h
      rw [l6] at this
      refine this ⟨h1, h2, h3, h4, by rw [pk_us, l6], fun j hj => ?_, fun j hj => ?_⟩
      · by_cases z : j = 6
        · subst z
          exact rl_S_empty h27
        · unfold rl_S
          rw [upS_n z, upS_n z]
          obtain ⟨g1, g2, g3, g4, g5⟩ := h6 j hj
          refine ⟨g1, g2, fun x hx => ?_, g4, g5⟩
          rw [fr _ (by omega)]; exact g3 x hx
      · have z : j ≠ 6 := by omega
        refine rl_R_keep ?_ z
        unfold rl_R
        rw [pk_un z]
        exact h7 j hj
