/-! transform: a turn, the innermost list going on -/
variable {f_nodeCount f_innermost f_draftLength f_rulesGiven f_wrongToken f_wantedCount f_inCondition f_depth f_cursor f_outcome f_outputCount f_stepsTaken : Int32} {a_names a_values a_parents a_kinds a_operands a_priorities a_givenAt a_wanted a_axes a_passing a_ends a_openers a_table a_results a_matched a_listLeft a_listNode a_listPosition a_listSize a_listBody a_listReturn a_outputs : Nat → Int32}
variable {g_nodes g_inner g_rules g_place g_listed g_depth g_row g_pc g_node g_position g_size g_fault g_put g_steps : Int32} {b_name b_parent b_value b_kind b_with b_count b_bodyAt b_priority b_given b_there b_wanted b_waiting b_within b_list b_left b_reached b_sizes b_each b_backRow b_backPc b_backNode b_backPosition b_backSize b_output : Nat → Int32}
variable {n k : Nat} {K : Nat → Nat → Nat} {len : Nat → Nat} {P : Int32 → SX → Prop} {Z : (Int32 → SY → Prop) → Prop}
/-- the transformation has ended with an answer other than OK -/
theorem tf_stop (hP : ∀ (rr : Int32) (d oc st : Nat) (cu row pc node pos size : Int32) (Rs LL LN LP LS LB LR ou BL BR BS BE BRow BPc BNode BPos BSz : Nat → Int32), (∀ post : Int32 → SY → Prop, (∀ (gl : Int32) (wt bl bw : Nat → Int32), post rr (nI n, g_inner, g_rules, g_place, gl, nI d, row, pc, node, pos, size, rr, nI oc, nI st, a_names, a_parents, a_values, b_kind, b_with, b_count, b_bodyAt, a_priorities, b_given, b_there, b_wanted, wt, bw, bl, BL, BR, BS, BE, BRow, BPc, BNode, BPos, BSz, ou)) → Z post) → P rr (nI n, f_innermost, f_draftLength, f_rulesGiven, f_wrongToken, f_wantedCount, f_inCondition, nI d, cu, rr, nI oc, nI st, a_names, a_values, a_parents, a_kinds, a_operands, a_priorities, a_givenAt, a_wanted, a_axes, a_passing, a_ends, a_openers, a_table, Rs, a_matched, LL, LN, LP, LS, LB, LR, ou)) {rr : Int32} (hrr : ¬ rr = 0) {t fX d oc st : Nat} {cu row pc node pos size : Int32} {Rs LL LN LP LS LB LR ou BL BR BS BE BRow BPc BNode BPos BSz : Nat → Int32} (ht : t < 30000) (hf : 0 < fX) (hd : 0 < d) (hd2 : d ≤ 12) (H : ∀ post : Int32 → SY → Prop, (∃ f, ∀ (gl : Int32) (wt bl bw : Nat → Int32), wY_transform_40 post f (nI n) g_inner g_rules g_place gl (nI d) row pc node pos size rr (nI oc) (nI st) a_names a_parents a_values b_kind b_with b_count b_bodyAt a_priorities b_given b_there b_wanted wt bw bl BL BR BS BE BRow BPc BNode BPos BSz ou) → Z post) : wX_transform_52 P fX (nI t) (nI n) f_innermost f_draftLength f_rulesGiven f_wrongToken f_wantedCount f_inCondition (nI d) cu rr (nI oc) (nI st) a_names a_values a_parents a_kinds a_operands a_priorities a_givenAt a_wanted a_axes a_passing a_ends a_openers a_table Rs a_matched LL LN LP LS LB LR ou := by
  obtain ⟨f, rfl⟩ : ∃ x, fX = x + 1 := ⟨fX - 1, by omega⟩
  refine br_f (nI_ge (b := 1000000) (by omega) (by decide)) (br_f (nI_nle hd (by omega)) (br_f hrr (hP rr d oc st cu row pc node pos size Rs LL LN LP LS LB LR ou BL BR BS BE BRow BPc BNode BPos BSz fun post hpost => H post ⟨1, fun gl wt bl bw => br_f (nI_nle hd (by omega)) (br_f hrr (hpost gl wt bl bw))⟩)))
/-- the next node of the innermost list, or where it began -/
theorem tf_adv (T : tr_T a_parents n) (hS : ∀ r, r < 7 → rl_S a_kinds a_operands b_kind b_with K len r) (hR : ∀ r, r < 6 → rl_R k K len a_givenAt b_count b_bodyAt b_given b_there r) (hk : k < 10000) (hA : xs_ax a_axes a_parents n) (hD : xt_D a_operands a_values a_parents a_names K len n a_ends a_openers a_table 0 192) (hM : ∀ r, r < 6 → ∀ i, i < n → (bt (a_matched r) i = true ↔ K r 0 = 15 ∧ ∃ a, a < n ∧ bt (a_table (32 * r * 24 + a)) i = true ∧ (i = a ∨ tr_a a_parents a i = true))) (hP : ∀ (rr : Int32) (d oc st : Nat) (cu row pc node pos size : Int32) (Rs LL LN LP LS LB LR ou BL BR BS BE BRow BPc BNode BPos BSz : Nat → Int32), (∀ post : Int32 → SY → Prop, (∀ (gl : Int32) (wt bl bw : Nat → Int32), post rr (nI n, g_inner, g_rules, g_place, gl, nI d, row, pc, node, pos, size, rr, nI oc, nI st, a_names, a_parents, a_values, b_kind, b_with, b_count, b_bodyAt, a_priorities, b_given, b_there, b_wanted, wt, bw, bl, BL, BR, BS, BE, BRow, BPc, BNode, BPos, BSz, ou)) → Z post) → P rr (nI n, f_innermost, f_draftLength, f_rulesGiven, f_wrongToken, f_wantedCount, f_inCondition, nI d, cu, rr, nI oc, nI st, a_names, a_values, a_parents, a_kinds, a_operands, a_priorities, a_givenAt, a_wanted, a_axes, a_passing, a_ends, a_openers, a_table, Rs, a_matched, LL, LN, LP, LS, LB, LR, ou)) {N : Nat} (ih : ∀ (t fX d st oc : Nat) (cu row pc node pos size : Int32) (Rs LL LN LP LS LB LR ou BL BR BS BE BRow BPc BNode BPos BSz : Nat → Int32), N < fX → (150 - st) * 64 + ph LR d + 2 * rm cu ≤ N → t + N ≤ 20000 → d ≤ 12 → st ≤ 150 → oc ≤ t → (∀ j, j < d → tl K len b_there n LL LN LP LS LB LR BL BR BS BE BRow BPc BNode BPos BSz j) → tu K len b_there n LN LP LS d cu row pc node pos size → (∀ post : Int32 → SY → Prop, (∃ f, ∀ (gl : Int32) (wt bl bw : Nat → Int32), wY_transform_40 post f (nI n) g_inner g_rules g_place gl (nI d) row pc node pos size 0 (nI oc) (nI st) a_names a_parents a_values b_kind b_with b_count b_bodyAt a_priorities b_given b_there b_wanted wt bw bl BL BR BS BE BRow BPc BNode BPos BSz ou) → Z post) → wX_transform_52 P fX (nI t) (nI n) f_innermost f_draftLength f_rulesGiven f_wrongToken f_wantedCount f_inCondition (nI d) cu 0 (nI oc) (nI st) a_names a_values a_parents a_kinds a_operands a_priorities a_givenAt a_wanted a_axes a_passing a_ends a_openers a_table Rs a_matched LL LN LP LS LB LR ou) :
    ∀ (t fX e st oc : Nat) (cu row pc node pos size : Int32) (Rs LL LN LP LS LB LR ou BL BR BS BE BRow BPc BNode BPos BSz : Nat → Int32), N < fX → (150 - st) * 64 + ph LR (e + 1) ≤ N + 1 → t + N + 1 ≤ 20000 → e < 12 → st ≤ 150 → oc ≤ t → (∀ j, j < e + 1 → tl K len b_there n LL LN LP LS LB LR BL BR BS BE BRow BPc BNode BPos BSz j) → (∀ post : Int32 → SY → Prop, (∃ f, ∀ (gl : Int32) (wt bl bw : Nat → Int32), wY_transform_40 post f (nI n) g_inner g_rules g_place gl (nI (e + 1)) (-1) pc node pos size 0 (nI oc) (nI st) a_names a_parents a_values b_kind b_with b_count b_bodyAt a_priorities b_given b_there b_wanted wt bw bl BL BR BS BE BRow BPc BNode BPos BSz ou) → Z post) →
      wpX_advance (fun u => match u with | (f_nodeCount_1, f_innermost_1, f_draftLength_1, f_rulesGiven_1, f_wrongToken_1, f_wantedCount_1, f_inCondition_1, f_depth_1, f_cursor_1, f_outcome_1, f_outputCount_1, f_stepsTaken_1, a_names_1, a_values_1, a_parents_1, a_kinds_1, a_operands_1, a_priorities_1, a_givenAt_1, a_wanted_1, a_axes_1, a_passing_1, a_ends_1, a_openers_1, a_table_1, a_results_1, a_matched_1, a_listLeft_1, a_listNode_1, a_listPosition_1, a_listSize_1, a_listBody_1, a_listReturn_1, a_outputs_1) => ∀ x1 : Int32, x1 = nI t + 1 → wX_transform_52 P fX x1 f_nodeCount_1 f_innermost_1 f_draftLength_1 f_rulesGiven_1 f_wrongToken_1 f_wantedCount_1 f_inCondition_1 f_depth_1 f_cursor_1 f_outcome_1 f_outputCount_1 f_stepsTaken_1 a_names_1 a_values_1 a_parents_1 a_kinds_1 a_operands_1 a_priorities_1 a_givenAt_1 a_wanted_1 a_axes_1 a_passing_1 a_ends_1 a_openers_1 a_table_1 a_results_1 a_matched_1 a_listLeft_1 a_listNode_1 a_listPosition_1 a_listSize_1 a_listBody_1 a_listReturn_1 a_outputs_1) (nI n, f_innermost, f_draftLength, f_rulesGiven, f_wrongToken, f_wantedCount, f_inCondition, nI (e + 1), cu, 0, nI oc, nI st, a_names, a_values, a_parents, a_kinds, a_operands, a_priorities, a_givenAt, a_wanted, a_axes, a_passing, a_ends, a_openers, a_table, Rs, a_matched, LL, LN, LP, LS, LB, LR, ou) := by
  intro t fX e st oc cu row pc node pos size Rs LL LN LP LS LB LR ou BL BR BS BE BRow BPc BNode BPos BSz hfX hph htN he hst hoc hl H
  have hn := T.1
  have le := hl e (by omega)
  obtain ⟨l1, l2, l3, l4, l5, l6⟩ := le
  have low : ∀ j, j < e → tl K len b_there n LL LN LP LS LB LR BL BR BS BE BRow BPc BNode BPos BSz j := fun j hj => hl j (by omega)
  have dne : ∀ {d : Nat}, 0 < d → d ≤ 12 → ¬ nI d ≤ 0 := fun h1 h2 => nI_nle h1 (by omega)
  rw [ph] at hph
  -- one turn of the reference, idle
  have yidle : ∀ {post : Int32 → SY → Prop} {f : Nat} (gl : Int32) (wt bl bw : Nat → Int32), wpY_nextNode (fun u => match u with | (g_nodes_1, g_inner_1, g_rules_1, g_place_1, g_listed_1, g_depth_1, g_row_1, g_pc_1, g_node_1, g_position_1, g_size_1, g_fault_1, g_put_1, g_steps_1, b_name_1, b_parent_1, b_value_1, b_kind_1, b_with_1, b_count_1, b_bodyAt_1, b_priority_1, b_given_1, b_there_1, b_wanted_1, b_waiting_1, b_within_1, b_list_1, b_left_1, b_reached_1, b_sizes_1, b_each_1, b_backRow_1, b_backPc_1, b_backNode_1, b_backPosition_1, b_backSize_1, b_output_1) => wY_transform_40 post f g_nodes_1 g_inner_1 g_rules_1 g_place_1 g_listed_1 g_depth_1 g_row_1 g_pc_1 g_node_1 g_position_1 g_size_1 g_fault_1 g_put_1 g_steps_1 b_name_1 b_parent_1 b_value_1 b_kind_1 b_with_1 b_count_1 b_bodyAt_1 b_priority_1 b_given_1 b_there_1 b_wanted_1 b_waiting_1 b_within_1 b_list_1 b_left_1 b_reached_1 b_sizes_1 b_each_1 b_backRow_1 b_backPc_1 b_backNode_1 b_backPosition_1 b_backSize_1 b_output_1) (nI n, g_inner, g_rules, g_place, gl, nI (e + 1), -1, pc, node, pos, size, 0, nI oc, nI st, a_names, a_parents, a_values, b_kind, b_with, b_count, b_bodyAt, a_priorities, b_given, b_there, b_wanted, wt, bw, bl, BL, BR, BS, BE, BRow, BPc, BNode, BPos, BSz, ou) → wY_transform_40 post (f + 1) (nI n) g_inner g_rules g_place gl (nI (e + 1)) (-1) pc node pos size 0 (nI oc) (nI st) a_names a_parents a_values b_kind b_with b_count b_bodyAt a_priorities b_given b_there b_wanted wt bw bl BL BR BS BE BRow BPc BNode BPos BSz ou := fun gl wt bl bw h => br_f (dne (by omega) (by omega)) (br_t rfl (br_f (by decide) h))
  by_cases z0 : LL e = 0
  · refine xt_adv0 he z0 (nm_r (nI_1 t) (ih (t + 1) fX e st oc (LR e) (BRow e) (BPc e) (BNode e) (BPos e) (BSz e) Rs LL LN LP LS LB LR ou BL BR BS BE BRow BPc BNode BPos BSz hfX (by omega) (by omega) (by omega) hst (by omega) low ?_ fun post ⟨f, hf⟩ => H post ⟨f + 1, fun gl wt bl bw => yidle gl wt bl bw (yt_next0 he (by rw [l1]; exact z0) (hf gl wt bl bw))⟩))
    rcases l6 with z | ⟨r, c, p, q1, q2, q3, i, a, ei, ha, q4, q5, q6, q7⟩
    · exact Or.inl z
    · exact Or.inr ⟨r, c, p, q1, q2, q3, i, a, ei, ha, q4, q5, q6, q7⟩
  have z0' : ¬ BL e = 0 := by rw [l1]; exact z0
  by_cases s150 : st = 150
  · subst s150
    refine xt_advL he z0 (nm_r (nI_1 t) (tf_stop (row := -1) (pc := pc) (node := node) (pos := pos) (size := size) (BL := BL) (BR := BR) (BS := BS) (BE := BE) (BRow := BRow) (BPc := BPc) (BNode := BNode) (BPos := BPos) (BSz := BSz) hP (by decide) (by omega) (by omega) (by omega) (by omega) fun post ⟨f, hf⟩ => H post ⟨f + 1, fun gl wt bl bw => yidle gl wt bl bw (yt_nextL he z0' (hf gl wt bl bw))⟩))
  have st150 : st < 150 := by omega
  obtain ⟨f, hf, hlow⟩ := me_ex hn l2 z0
  have hlow' : me_low (BL e) f := by rw [l1]; exact hlow
  -- what is left, the same on both sides
  have eLeft : BL e &&& (((1 : Int32) <<< (nI f &&& 31)) ^^^ (-1)) = LL e &&& (LL e - 1) := by rw [l1]; exact (me_less hlow).symm
  have lv : ∀ j, j < e + 1 → tl K len b_there n (upd LL e (LL e &&& (LL e - 1))) (upd LN e (nI f)) (upd LP e (LP e + 1)) LS LB LR (upd BL e (BL e &&& (((1 : Int32) <<< (nI f &&& 31)) ^^^ (-1)))) (upd BR e (BR e + 1)) BS BE BRow BPc BNode BPos BSz j := by
    intro j hj
    rcases Nat.lt_or_ge j e with z | z
    · exact tl_lt (m := e) z (fun i hi => pk_un (by omega)) (fun i hi => pk_un (by omega)) (fun i hi => pk_un (by omega)) (fun _ _ => rfl) (fun _ _ => rfl) (fun _ _ => rfl) (fun i hi => pk_un (by omega)) (fun i hi => pk_un (by omega)) (fun _ _ => rfl) (fun _ _ => rfl) (fun _ _ => rfl) (fun _ _ => rfl) (fun _ _ => rfl) (fun _ _ => rfl) (fun _ _ => rfl) (low j z)
    · have ej : j = e := by omega
      subst ej
      refine ⟨by rw [pk_us, pk_us]; exact eLeft, fun i hi hb => ?_, by rw [pk_us, pk_us, l3], l4, l5, ?_⟩
      · rw [pk_us, b_and, Bool.and_eq_true] at hb
        exact l2 i hi hb.1
      · rcases l6 with z | ⟨r, c, p, q1, q2, q3, i, a, ei, ha, q4, q5, q6, q7⟩
        · exact Or.inl z
        · exact Or.inr ⟨r, c, p, q1, q2, q3, i, a, ei, ha, by rw [pk_un (by omega)]; exact q4, q5, by rw [pk_un (by omega)]; exact q6, q7⟩
  obtain ⟨m0, m1⟩ := rl_M hf hR hS hM
  have hH : ∀ r, r < 6 → yr_H b_kind b_with b_bodyAt b_there a_values a_parents a_names K (fun r x => a_operands (32 * r + x)) len n (fun r x a => a_table ((32 * r + x) * 24 + a)) r := fun r hr => rl_yH hr (hS r (by omega)) (hR r hr) hD
  have hG := rl_G hk hR
  have hch : ∀ i, i < 32 → bt (a_axes (24 + f)) i = (decide (i < n) && decide (a_parents i = nI f)) := fun i hi => by
    have := hA 1 f i (by omega) hf hi
    rw [show 1 * 24 + f = 24 + f by omega, tr_on1] at this
    exact this
  refine xt_advN he z0 st150 hlow (fun hB => ?_) (fun hB => ?_)
  · -- a body of EACH
    rcases l5 with ⟨z, _⟩ | ⟨r, c, p, q1, q2, q3⟩
    · exact absurd z hB
    · have c30 : c ≤ 30 := by
        have := p.2.2.2
        rcases p.2.2.1 with y | y <;> omega
      have r6 := p.1
      have rr := rm_c (r := r) (c := c) r6 c30
      have hE : ¬ BE e < 0 := by rw [q2]; exact nI_pos (by omega)
      refine nm_r (nI_1 t) (ih (t + 1) fX (e + 1) (st + 1) oc (LB e) (BRow e) (BE e) (nI f) (BR e + 1) (BS e) Rs _ _ _ LS LB LR ou _ _ BS BE BRow BPc BNode BPos BSz hfX ?_ (by omega) (by omega) (by omega) (by omega) lv ?_ fun post ⟨g, hg⟩ => H post ⟨g + 1, fun gl wt bl bw => yidle gl wt bl bw (yt_nextN he z0' st150 hlow' (fun _ => hg gl wt bl bw) (fun z => absurd z hE))⟩)
      · rw [ph, q1, rr]; omega
      · exact Or.inr ⟨r, c, p, q1, q3, q2, e, f, rfl, hf, pk_us, rfl, by rw [pk_us, l3], l4⟩
  · -- rules
    have hE : BE e < 0 := by
      rcases l5 with ⟨_, z⟩ | ⟨r, c, p, q1, _⟩
      · rw [z]; decide
      · rw [hB] at q1
        exact absurd (q1 ▸ tr_m1) (nI_pos (by have := p.1; have := p.2.2.2; rcases p.2.2.1 with y | y <;> omega))
    cases hbs : bs (fun r => bt (a_matched r) f) a_priorities a_givenAt 6 0 none with
    | some r =>
      have bm := bs_m (d := 6) (r := 0) (b := none) (fun y hy => by cases hy) hbs
      have r6 : r < 6 := by omega
      have t1 : b_there r = 1 := by
        rcases hR r r6 with ⟨z, _⟩ | ⟨z, _⟩
        · have := m0 r r6 z
          rw [this] at bm
          exact nomatch bm.1
        · exact z
      obtain ⟨W, k15, lpos, bp, hcnt, hba⟩ : gm_W (K r) (len r) ∧ K r 0 = 15 ∧ 0 < len r ∧ gm_bp (K r) (len r) (gm_e (K r) 0) ∧ b_count r = nI (len r) ∧ b_bodyAt r = nI (gm_e (K r) 0) := by
        rcases hR r r6 with ⟨z, _⟩ | ⟨_, z1, z2, z3, z4, z5, z6, _⟩
        · rw [t1] at z; exact absurd z (by decide)
        · exact ⟨z1, z2, z3, z4, z5, z6⟩
      have e30 : gm_e (K r) 0 ≤ 30 := by have := W.1; have := (W.2.2 0 lpos).2.1; omega
      have hends : a_ends (32 * r) = nI (32 * r + gm_e (K r) 0) := (hD r 0 (by omega) (by omega) (by omega)).1
      have rr := rm_c (r := r) (c := gm_e (K r) 0) r6 e30
      refine xt_handleR (by omega) r6 hbs hends (nm_r (nI_1 t) (ih (t + 1) fX (e + 1) (st + 1) oc _ (nI r) (nI (30 * r + gm_e (K r) 0)) (nI f) (BR e + 1) (BS e) Rs _ _ _ LS LB LR ou _ _ BS BE BRow BPc BNode BPos BSz hfX ?_ (by omega) (by omega) (by omega) (by omega) lv ?_ fun post ⟨g, hg⟩ => H post ⟨g + 1, fun gl wt bl bw => yidle gl wt bl bw (yt_nextN he z0' st150 hlow' (fun z => absurd hE z) (fun _ => ?_))⟩))
      · rw [ph, rr]; omega
      · exact Or.inr ⟨r, gm_e (K r) 0, ⟨r6, t1, bp, W.1⟩, rfl, rfl, rfl, e, f, rfl, hf, pk_us, rfl, by rw [pk_us, l3], l4⟩
      · have ce : (nI e).toNatClampNeg = e := nI_clamp (by omega)
        have ve : vp_in (nI e) 13 := vp_in_nI (by omega) (by omega)
        exact yt_handleR (M := fun r => bt (a_matched r) f) T hf hH m0 m1 hG hbs r6 hba e30 fun gl' bl' bw' => br_t (nI_pos' (by omega)) ⟨ve, nm_r (e' := BR e + 1) (by rw [ce, pk_us]) ⟨ve, nm_r (e' := BS e) (by rw [ce]) (hg gl' wt bl' bw')⟩⟩
    | none =>
      by_cases hc0 : a_axes (24 + f) = 0
      · refine xt_handleV (by omega) (by omega) hbs hc0 (nm_r (nI_1 t) (ih (t + 1) fX (e + 1) (st + 1) (oc + 1) (nI 223) (-1) pc node pos size Rs _ _ _ LS LB LR _ _ _ BS BE BRow BPc BNode BPos BSz hfX ?_ (by omega) (by omega) (by omega) (by omega) lv (Or.inl ⟨rfl, rfl⟩) fun post ⟨g, hg⟩ => H post ⟨g + 1, fun gl wt bl bw => yidle gl wt bl bw (yt_nextN he z0' st150 hlow' (fun z => absurd hE z) (fun _ => ?_))⟩))
        · rw [ph, rm_i]; omega
        · exact yt_handleN (M := fun r => bt (a_matched r) f) T hf hH m0 m1 hG hbs hch (fun _ gl' bl' bw' => yt_put (by omega) (br_f (by decide) (hg gl' wt bl' bw'))) (fun z => absurd hc0 z)
      · have hcb : ∀ i, i < 32 → bt (a_axes (24 + f)) i = true → i < n := fun i hi z => by
          rw [hch i hi, Bool.and_eq_true, decide_eq_true_eq] at z; exact z.1
        refine xt_handleC (by omega) hbs hc0 ?_
        rcases Nat.lt_or_ge (e + 1) 12 with d12 | d12
        · refine xt_beginT d12 (nm_r (nI_1 t) (ih (t + 1) fX (e + 2) (st + 1) oc (nI 223) (-1) pc node pos size Rs _ _ _ _ _ _ ou (upd (upd BL e (BL e &&& (((1 : Int32) <<< (nI f &&& 31)) ^^^ (-1)))) (e + 1) (a_axes (24 + f))) (upd (upd BR e (BR e + 1)) (e + 1) 0) (upd BS (e + 1) (nI (nu_cnt (a_axes (24 + f)) n))) (upd BE (e + 1) (-1)) (upd BRow (e + 1) (-1)) (upd BPc (e + 1) pc) (upd BNode (e + 1) node) (upd BPos (e + 1) pos) (upd BSz (e + 1) size) hfX ?_ (by omega) (by omega) (by omega) (by omega) ?_ (Or.inl ⟨rfl, rfl⟩) fun post ⟨g, hg⟩ => H post ⟨g + 1, fun gl wt bl bw => yidle gl wt bl bw (yt_nextN he z0' st150 hlow' (fun z => absurd hE z) (fun _ => ?_))⟩))
          rotate_left 2
          · exact yt_handleN (M := fun r => bt (a_matched r) f) T hf hH m0 m1 hG hbs hch (fun z => absurd z hc0) (fun _ gl' bl' bw' => yt_beginT hn d12 (br_f (by decide) (hg gl' wt bl' bw')))
          · rw [ph, pk_us, ph_c (d := e + 1) (L := LR) (fun i hi => pk_un (by omega)), ph, show rm 223 = 0 from rm_i, rm_i]; omega
          · intro j hj
            rcases Nat.lt_or_ge j (e + 1) with z | z
            · exact tl_lt (m := e + 1) z (fun i hi => pk_un (by omega)) (fun _ _ => rfl) (fun i hi => pk_un (by omega)) (fun i hi => pk_un (by omega)) (fun i hi => pk_un (by omega)) (fun i hi => pk_un (by omega)) (fun i hi => pk_un (by omega)) (fun i hi => pk_un (by omega)) (fun i hi => pk_un (by omega)) (fun i hi => pk_un (by omega)) (fun i hi => pk_un (by omega)) (fun i hi => pk_un (by omega)) (fun i hi => pk_un (by omega)) (fun i hi => pk_un (by omega)) (fun i hi => pk_un (by omega)) (lv j z)
            · have ej : j = e + 1 := by omega
              subst ej
              refine ⟨by rw [pk_us, pk_us], fun i hi z => ?_, by rw [pk_us, pk_us], by rw [pk_us, pk_us, me_24 hn hcb], Or.inl ⟨pk_us, pk_us⟩, Or.inl ⟨pk_us, pk_us⟩⟩
              rw [pk_us] at z
              exact hcb i hi z
        · refine xt_beginF (by omega) (nm_r (nI_1 t) (tf_stop (row := -1) (pc := pc) (node := node) (pos := pos) (size := size) (BL := upd BL e (BL e &&& (((1 : Int32) <<< (nI f &&& 31)) ^^^ (-1)))) (BR := upd BR e (BR e + 1)) (BS := BS) (BE := BE) (BRow := BRow) (BPc := BPc) (BNode := BNode) (BPos := BPos) (BSz := BSz) hP (by decide) (by omega) (by omega) (by omega) (by omega) fun post ⟨g, hg⟩ => H post ⟨g + 1, fun gl wt bl bw => yidle gl wt bl bw (yt_nextN he z0' st150 hlow' (fun z => absurd hE z) (fun _ => ?_))⟩))
          exact yt_handleN (M := fun r => bt (a_matched r) f) T hf hH m0 m1 hG hbs hch (fun z => absurd z hc0) (fun _ gl' bl' bw' => yt_beginF (by omega) (br_f (by decide) (hg gl' wt bl' bw')))
