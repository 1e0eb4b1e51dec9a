/-! transform: lists begun by a token, and the handling of a node, in the reference -/
section
variable {g_nodes g_inner g_rules g_place g_listed g_depth g_row g_pc g_node g_position g_size g_fault g_put g_steps : Int32} {b_name b_parent b_value b_kind b_with b_count b_bodyAt b_priority b_given b_there b_wanted b_waiting b_within b_list b_left b_reached b_sizes b_each b_backRow b_backPc b_backNode b_backPosition b_backSize b_output : Nat → Int32}
theorem ye_path {post : SY → Prop} {K : Nat → Nat} {O : Nat → Int32} {r l c n nd d : Nat} {tb : Nat → Nat → Int32} (W : gm_W K l) (hk : ys_k b_kind b_with (30 * r) K O l) (hr : r < 6) (hc : c < l) (hcnt : b_count r = nI l) (T : tr_T b_parent n) (hov : ∀ x, x < l → K x = 15 → ∃ v, v < 72 ∧ O x = nI v) (TE : ∀ c, c < l → nu_TE K O b_value b_parent b_name l n tb c) (kc : K c = 23 ∨ K c = 25) (hnd : nd < n) (hd : d ≤ 12)
    (hT : d < 12 → ∀ (gl : Int32) (bl bw : Nat → Int32), post (nI n, g_inner, g_rules, g_place, gl, nI (d + 1), -1, nI (30 * r + gm_e K c), nI nd, g_position, g_size, 0, g_put, g_steps, b_name, b_parent, b_value, b_kind, b_with, b_count, b_bodyAt, b_priority, b_given, b_there, b_wanted, b_waiting, bw, bl, upd b_left d (tb (c + 1) nd), upd b_reached d 0, upd b_sizes d (nI (nu_cnt (tb (c + 1) nd) n)), upd b_each d (if K c = 25 then nI (30 * r + gm_e K (c + 1)) else -1), upd b_backRow d (nI r), upd b_backPc d (nI (30 * r + gm_e K c)), upd b_backNode d (nI nd), upd b_backPosition d g_position, upd b_backSize d g_size, b_output))
    (hF : d = 12 → ∀ (gl : Int32) (bl bw : Nat → Int32), post (nI n, g_inner, g_rules, g_place, gl, nI d, nI r, nI (30 * r + gm_e K c), nI nd, g_position, g_size, 2, g_put, g_steps, b_name, b_parent, b_value, b_kind, b_with, b_count, b_bodyAt, b_priority, b_given, b_there, b_wanted, b_waiting, bw, bl, b_left, b_reached, b_sizes, b_each, b_backRow, b_backPc, b_backNode, b_backPosition, b_backSize, b_output)) :
    wpY_execute post (nI n, g_inner, g_rules, g_place, g_listed, nI d, nI r, nI (30 * r + c), nI nd, g_position, g_size, 0, g_put, g_steps, b_name, b_parent, b_value, b_kind, b_with, b_count, b_bodyAt, b_priority, b_given, b_there, b_wanted, b_waiting, b_within, b_list, b_left, b_reached, b_sizes, b_each, b_backRow, b_backPc, b_backNode, b_backPosition, b_backSize, b_output) := by
  have hl := W.1
  have L := W.2.2 c hc
  have L1 := L.1
  have L2 := L.2.1
  have pth : K (c + 1) = 15 ∧ c + 1 < l ∧ gm_e K (c + 1) ≤ l ∧ (K c = 23 → gm_e K c = gm_e K (c + 1)) := by
    rcases kc with k | k
    · obtain ⟨p1, p2, p3, p4⟩ := L.2.2.2.2.2.2.2.2.2.2.2.2.2.2.1 k
      exact ⟨p1, by omega, by omega, fun _ => p2⟩
    · obtain ⟨p1, p2, q1, q2⟩ := L.2.2.2.2.2.2.2.2.2.2.2.2.2.2.2.2.1 k
      exact ⟨p1, by omega, by omega, fun z => by omega⟩
  obtain ⟨k15, c1l, el, e23⟩ := pth
  have vd : vp_in (nI d) 13 := vp_in_nI (by omega) (by omega)
  have cd : (nI d).toNatClampNeg = d := nI_clamp (by omega)
  have kne : ∀ k, k < 2 ^ 31 → K c ≠ k → ¬ nI (K c) = nI k := fun k h1 h2 z => h2 ((yw_knk W h1).mp z)
  refine ye_pre hr hl hc hcnt (hk c hc).1 (br_f (kne 20 (by omega) (by omega)) (br_f (kne 21 (by omega) (by omega)) (br_f (kne 26 (by omega) (by omega)) (br_f (kne 22 (by omega) (by omega)) (br_f (kne 24 (by omega) (by omega)) ?_)))))
  refine yw_pathEnd W (by omega) hk (Nat.le_refl _) k15 el ?_
  refine yw_path (tb := tb) W (by omega) hk T hov TE el k15 (Nat.le_refl _) c1l hnd fun gl bl bw => ?_
  rcases kc with k | k
  · rw [k]
    refine br_f (by decide) (br_f (by decide) ?_)
    rw [← e23 k]
    rcases Nat.lt_or_ge d 12 with z | z
    · unfold wY_execute_257
      refine yt_beginT T.1 z (br_t rfl (br_f (by decide) ?_))
      have := hT z gl bl bw
      rw [if_neg (by omega)] at this
      exact this
    · unfold wY_execute_257
      exact yt_beginF (by omega) (br_f (by decide) (hF (by omega) gl bl bw))
  · rw [k]
    have op := gm_opp W hc (Or.inr (Or.inr k))
    refine br_t rfl (yt_endOf W (by omega) hk hc (Or.inr (Or.inr k)) op.1 op.2.1 (br_t rfl ?_))
    rw [nI_1, show 30 * r + (gm_e K c - 1) + 1 = 30 * r + gm_e K c by omega]
    rcases Nat.lt_or_ge d 12 with z | z
    · unfold wY_execute_257
      refine yt_beginT T.1 z (br_t rfl (br_t rfl ⟨by rw [nI_pred]; exact vd, nm_r (e' := upd b_backRow d (nI r)) (by rw [nI_pred, cd, upd_i]) ?_⟩))
      have := hT z gl bl bw
      rw [if_pos k] at this
      exact this
    · unfold wY_execute_257
      exact yt_beginF (by omega) (br_f (by decide) (hF (by omega) gl bl bw))
theorem yt_handleR {post : SY → Prop} {K : Nat → Nat → Nat} {O : Nat → Nat → Int32} {len : Nat → Nat} {n m r : Nat} {tb : Nat → Nat → Nat → Int32} {M : Nat → Bool} {G : Nat → Int32} {e0 : Nat} (T : tr_T b_parent n) (hm : m < n) (H : ∀ r, r < 6 → yr_H b_kind b_with b_bodyAt b_there b_value b_parent b_name K O len n tb r)
    (hM0 : ∀ r, r < 6 → b_there r = 0 → M r = false) (hM1 : ∀ r, r < 6 → b_there r = 1 → (M r = true ↔ ∃ b, b < n ∧ (m = b ∨ tr_a b_parent b m = true) ∧ bt (tb r 0 b) m = true))
    (hG : ∀ r x, r < 6 → x < 6 → b_there r = 1 → b_there x = 1 → (b_given r ≤ b_given x ↔ G r ≤ G x)) (hb : bs M b_priority G 6 0 none = some r) (hr : r < 6) (hba : b_bodyAt r = nI e0) (he : e0 ≤ 30)
    (hp : ∀ (gl : Int32) (bl bw : Nat → Int32), post (nI n, g_inner, g_rules, g_place, gl, g_depth, nI r, nI (30 * r + e0), g_node, g_position, g_size, g_fault, g_put, g_steps, b_name, b_parent, b_value, b_kind, b_with, b_count, b_bodyAt, b_priority, b_given, b_there, b_wanted, b_waiting, bw, bl, b_left, b_reached, b_sizes, b_each, b_backRow, b_backPc, b_backNode, b_backPosition, b_backSize, b_output)) : wpY_handle post (nI n, g_inner, g_rules, g_place, g_listed, g_depth, g_row, g_pc, g_node, g_position, g_size, g_fault, g_put, g_steps, b_name, b_parent, b_value, b_kind, b_with, b_count, b_bodyAt, b_priority, b_given, b_there, b_wanted, b_waiting, b_within, b_list, b_left, b_reached, b_sizes, b_each, b_backRow, b_backPc, b_backNode, b_backPosition, b_backSize, b_output) (nI m) := by
  have e30 : (30 : Int32) * nI r = nI (30 * r) := by rw [show (30 : Int32) = nI 30 from rfl, pk_mul]
  unfold wpY_handle
  refine yo_ruleFor T hm H hM0 hM1 hG fun gl bl bw => ?_
  rw [hb]
  refine br_f (nI_pos (n := r) (by omega)) ⟨vp_in_nI (n := r) hr (by omega), nm_r (e' := nI (30 * r + e0)) ?_ (hp gl bl bw)⟩
  show (30 : Int32) * nI r + b_bodyAt (nI r).toNatClampNeg = _
  rw [nI_clamp (by omega), hba, e30, nI_add]
theorem yt_handleN {post : SY → Prop} {K : Nat → Nat → Nat} {O : Nat → Nat → Int32} {len : Nat → Nat} {n m : Nat} {tb : Nat → Nat → Nat → Int32} {M : Nat → Bool} {G : Nat → Int32} {ch : Int32} (T : tr_T b_parent n) (hm : m < n) (H : ∀ r, r < 6 → yr_H b_kind b_with b_bodyAt b_there b_value b_parent b_name K O len n tb r)
    (hM0 : ∀ r, r < 6 → b_there r = 0 → M r = false) (hM1 : ∀ r, r < 6 → b_there r = 1 → (M r = true ↔ ∃ b, b < n ∧ (m = b ∨ tr_a b_parent b m = true) ∧ bt (tb r 0 b) m = true))
    (hG : ∀ r x, r < 6 → x < 6 → b_there r = 1 → b_there x = 1 → (b_given r ≤ b_given x ↔ G r ≤ G x)) (hb : bs M b_priority G 6 0 none = none) (hch : ∀ i, i < 32 → bt ch i = (decide (i < n) && decide (b_parent i = nI m)))
    (h0 : ch = 0 → ∀ (gl : Int32) (bl bw : Nat → Int32), wpY_emit (fun u => match u with | (g_nodes_1, g_inner_1, g_rules_1, g_place_1, g_listed_1, g_depth_1, g_row_1, g_pc_1, g_node_1, g_position_1, g_size_1, g_fault_1, g_put_1, g_steps_1, b_name_1, b_parent_1, b_value_1, b_kind_1, b_with_1, b_count_1, b_bodyAt_1, b_priority_1, b_given_1, b_there_1, b_wanted_1, b_waiting_1, b_within_1, b_list_1, b_left_1, b_reached_1, b_sizes_1, b_each_1, b_backRow_1, b_backPc_1, b_backNode_1, b_backPosition_1, b_backSize_1, b_output_1) => post (g_nodes_1, g_inner_1, g_rules_1, g_place_1, g_listed_1, g_depth_1, g_row_1, g_pc_1, g_node_1, g_position_1, g_size_1, g_fault_1, g_put_1, g_steps_1, b_name_1, b_parent_1, b_value_1, b_kind_1, b_with_1, b_count_1, b_bodyAt_1, b_priority_1, b_given_1, b_there_1, b_wanted_1, b_waiting_1, b_within_1, b_list_1, b_left_1, b_reached_1, b_sizes_1, b_each_1, b_backRow_1, b_backPc_1, b_backNode_1, b_backPosition_1, b_backSize_1, b_output_1)) (nI n, g_inner, g_rules, g_place, gl, g_depth, g_row, g_pc, g_node, g_position, g_size, g_fault, g_put, g_steps, b_name, b_parent, b_value, b_kind, b_with, b_count, b_bodyAt, b_priority, b_given, b_there, b_wanted, b_waiting, bw, bl, b_left, b_reached, b_sizes, b_each, b_backRow, b_backPc, b_backNode, b_backPosition, b_backSize, b_output) (b_value m)) (h1 : ¬ ch = 0 → ∀ (gl : Int32) (bl bw : Nat → Int32), wpY_begin (fun u => match u with | (g_nodes_1, g_inner_1, g_rules_1, g_place_1, g_listed_1, g_depth_1, g_row_1, g_pc_1, g_node_1, g_position_1, g_size_1, g_fault_1, g_put_1, g_steps_1, b_name_1, b_parent_1, b_value_1, b_kind_1, b_with_1, b_count_1, b_bodyAt_1, b_priority_1, b_given_1, b_there_1, b_wanted_1, b_waiting_1, b_within_1, b_list_1, b_left_1, b_reached_1, b_sizes_1, b_each_1, b_backRow_1, b_backPc_1, b_backNode_1, b_backPosition_1, b_backSize_1, b_output_1) => post (g_nodes_1, g_inner_1, g_rules_1, g_place_1, g_listed_1, g_depth_1, g_row_1, g_pc_1, g_node_1, g_position_1, g_size_1, g_fault_1, g_put_1, g_steps_1, b_name_1, b_parent_1, b_value_1, b_kind_1, b_with_1, b_count_1, b_bodyAt_1, b_priority_1, b_given_1, b_there_1, b_wanted_1, b_waiting_1, b_within_1, b_list_1, b_left_1, b_reached_1, b_sizes_1, b_each_1, b_backRow_1, b_backPc_1, b_backNode_1, b_backPosition_1, b_backSize_1, b_output_1)) (nI n, g_inner, g_rules, g_place, gl, g_depth, g_row, g_pc, g_node, g_position, g_size, g_fault, g_put, g_steps, b_name, b_parent, b_value, b_kind, b_with, b_count, b_bodyAt, b_priority, b_given, b_there, b_wanted, b_waiting, bw, bl, b_left, b_reached, b_sizes, b_each, b_backRow, b_backPc, b_backNode, b_backPosition, b_backSize, b_output) ch (-1)) : wpY_handle post (nI n, g_inner, g_rules, g_place, g_listed, g_depth, g_row, g_pc, g_node, g_position, g_size, g_fault, g_put, g_steps, b_name, b_parent, b_value, b_kind, b_with, b_count, b_bodyAt, b_priority, b_given, b_there, b_wanted, b_waiting, b_within, b_list, b_left, b_reached, b_sizes, b_each, b_backRow, b_backPc, b_backNode, b_backPosition, b_backSize, b_output) (nI m) := by
  have hn := T.1
  unfold wpY_handle
  refine yo_ruleFor T hm H hM0 hM1 hG fun gl bl bw => ?_
  rw [hb]
  refine br_t (by decide) ⟨n + 1, ?_⟩
  exact yt_36 (post := post) hn (by omega) hch (fun q => h0 q gl bl bw) (fun q => h1 q gl bl bw) n 0 (n + 1) 0 (by omega) (by omega) (fun i hi => by rw [b_0, decide_eq_false (show ¬ i < 0 by omega), Bool.false_and])
end
