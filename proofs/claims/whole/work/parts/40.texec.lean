/-! transform: handling and executing, each side -/
section
variable {g_nodes g_inner g_rules g_place g_listed g_depth g_row g_pc g_node g_position g_size g_fault g_put g_steps : Int32} {b_name b_parent b_value b_kind b_with b_count b_bodyAt b_priority b_given b_there b_wanted b_waiting b_within b_list b_left b_reached b_sizes b_each b_backRow b_backPc b_backNode b_backPosition b_backSize b_output : Nat → Int32}
theorem yt_36 {post : SY → Prop} {n p : Nat} {ch : Int32} (hn : n ≤ 24) (hp24 : p < 24) (hch : ∀ i, i < 32 → bt ch i = (decide (i < n) && decide (b_parent i = nI p)))
    (h0 : ch = 0 → wpY_emit post (nI n, g_inner, g_rules, g_place, g_listed, g_depth, g_row, g_pc, g_node, g_position, g_size, g_fault, g_put, g_steps, b_name, b_parent, b_value, b_kind, b_with, b_count, b_bodyAt, b_priority, b_given, b_there, b_wanted, b_waiting, b_within, b_list, b_left, b_reached, b_sizes, b_each, b_backRow, b_backPc, b_backNode, b_backPosition, b_backSize, b_output) (b_value p)) (h1 : ¬ ch = 0 → wpY_begin post (nI n, g_inner, g_rules, g_place, g_listed, g_depth, g_row, g_pc, g_node, g_position, g_size, g_fault, g_put, g_steps, b_name, b_parent, b_value, b_kind, b_with, b_count, b_bodyAt, b_priority, b_given, b_there, b_wanted, b_waiting, b_within, b_list, b_left, b_reached, b_sizes, b_each, b_backRow, b_backPc, b_backNode, b_backPosition, b_backSize, b_output) ch (-1)) :
    ∀ d m f x, m + d = n → d < f → (∀ i, i < 32 → bt x i = (decide (i < m) && decide (b_parent i = nI p))) → wY_handle_36 post (nI p) (nI n) g_inner g_rules g_place g_listed g_depth g_row g_pc g_node g_position g_size g_fault g_put g_steps b_name b_parent b_value b_kind b_with b_count b_bodyAt b_priority b_given b_there b_wanted b_waiting b_within b_list b_left b_reached b_sizes b_each b_backRow b_backPc b_backNode b_backPosition b_backSize b_output f x (nI m) := by
  intro d
  induction d with
  | zero =>
    intro m f x hm hf hx
    obtain ⟨f, rfl⟩ : ∃ x, f = x + 1 := ⟨f - 1, by omega⟩
    have e : m = n := by omega
    subst e
    have ex : x = ch := b_ext fun i hi => by rw [hx i hi, hch i hi]
    subst ex
    refine br_t (nI_le (Nat.le_refl _) (by omega)) (br_c (fun q => ⟨vp_in_nI hp24 (by omega), ?_⟩) (fun q => h1 q))
    rw [nI_clamp (by omega)]
    exact h0 q
  | succ d ih =>
    intro m f x hm hf hx
    obtain ⟨f, rfl⟩ : ∃ x, f = x + 1 := ⟨f - 1, by omega⟩
    refine br_f (nI_ge (by omega) (by omega)) ⟨vp_in_nI (by omega) (by omega), ?_⟩
    rw [nI_clamp (by omega)]
    refine br_c (fun q => nm_e (nm_r (nI_1 m) (ih (m + 1) f _ (by omega) (by omega) fun i hi => ?_))) (fun q => nm_r (nI_1 m) (ih (m + 1) f x (by omega) (by omega) fun i hi => ?_))
    · rw [ms_set x (by omega) hi, hx i hi]
      by_cases z : i = m
      · rw [z, q, decide_eq_true rfl, decide_eq_true rfl, decide_eq_true (show m < m + 1 by omega), Bool.or_true]; rfl
      · rw [decide_eq_false z, Bool.or_false]
        by_cases y : i < m
        · rw [decide_eq_true y, decide_eq_true (show i < m + 1 by omega)]
        · rw [decide_eq_false y, decide_eq_false (show ¬ i < m + 1 by omega)]
    · rw [hx i hi]
      by_cases z : i = m
      · rw [z, decide_eq_false q, Bool.and_false, Bool.and_false]
      · by_cases y : i < m
        · rw [decide_eq_true y, decide_eq_true (show i < m + 1 by omega)]
        · rw [decide_eq_false y, decide_eq_false (show ¬ i < m + 1 by omega)]
theorem yt_endOf {post : Int32 → Prop} {K : Nat → Nat} {O : Nat → Int32} {len y c : Nat} (W : gm_W K len) (hy : y + 30 ≤ 210) (hk : ys_k b_kind b_with y K O len) (hc : c < len) (ho : K c = 21 ∨ K c = 24 ∨ K c = 25) (o1 : gm_od K (gm_e K c) = gm_od K c) (o2 : ∀ x, c < x → x < gm_e K c → gm_od K c + 1 ≤ gm_od K x) (hp : post (nI (y + (gm_e K c - 1)))) : wpY_endOf post (g_nodes, g_inner, g_rules, g_place, g_listed, g_depth, g_row, g_pc, g_node, g_position, g_size, g_fault, g_put, g_steps, b_name, b_parent, b_value, b_kind, b_with, b_count, b_bodyAt, b_priority, b_given, b_there, b_wanted, b_waiting, b_within, b_list, b_left, b_reached, b_sizes, b_each, b_backRow, b_backPc, b_backNode, b_backPosition, b_backSize, b_output) (nI (y + c)) := by
  have hl := W.1
  have hel := (W.2.2 c hc).2.1
  have hlt := (W.2.2 c hc).1
  have key : ∀ (s i f q : Nat), i + s + 1 = gm_e K c → s < f → c ≤ i → (q : Int) = gm_od K (i + 1) - gm_od K c → q ≤ i + 1 → wY_endOf_4 post g_nodes g_inner g_rules g_place g_listed g_depth g_row g_pc g_node g_position g_size g_fault g_put g_steps b_name b_parent b_value b_kind b_with b_count b_bodyAt b_priority b_given b_there b_wanted b_waiting b_within b_list b_left b_reached b_sizes b_each b_backRow b_backPc b_backNode b_backPosition b_backSize b_output f (nI q) (nI (y + i)) := by
    intro s
    induction s with
    | zero =>
      intro i f q hi hf hci hq q100
      obtain ⟨f, rfl⟩ : ∃ x, f = x + 1 := ⟨f - 1, by omega⟩
      have e : i = gm_e K c - 1 := by omega
      have q0 : q = 0 := by
        have : i + 1 = gm_e K c := by omega
        rw [this, o1] at hq
        omega
      subst q0
      rw [e]
      exact br_t (by decide) hp
    | succ s ih =>
      intro i f q hi hf hci hq q100
      obtain ⟨f, rfl⟩ : ∃ x, f = x + 1 := ⟨f - 1, by omega⟩
      have g := o2 (i + 1) (by omega) (by omega)
      have il : i + 1 < len := by omega
      have k27 := gm_k26 W (i + 1)
      refine br_f (nI_nle (by omega) (by omega)) (nm_r (e' := nI (y + (i + 1))) (by rw [nI_1, Nat.add_assoc]) ⟨vp_in_nI (by omega) (by omega), nm_r (e' := nI (K (i + 1))) (by rw [nI_clamp (by omega)]; exact (hk (i + 1) il).1) ?_⟩)
      have op : (K (i + 1) = 21 ∨ K (i + 1) = 24 ∨ K (i + 1) = 25) → wY_endOf_40 post (wY_endOf_4 post g_nodes g_inner g_rules g_place g_listed g_depth g_row g_pc g_node g_position g_size g_fault g_put g_steps b_name b_parent b_value b_kind b_with b_count b_bodyAt b_priority b_given b_there b_wanted b_waiting b_within b_list b_left b_reached b_sizes b_each b_backRow b_backPc b_backNode b_backPosition b_backSize b_output f) (nI q) (nI (y + (i + 1))) (nI (K (i + 1))) g_nodes g_inner g_rules g_place g_listed g_depth g_row g_pc g_node g_position g_size g_fault g_put g_steps b_name b_parent b_value b_kind b_with b_count b_bodyAt b_priority b_given b_there b_wanted b_waiting b_within b_list b_left b_reached b_sizes b_each b_backRow b_backPc b_backNode b_backPosition b_backSize b_output := fun h => by
        have d := gm_od_o h
        refine nm_r (nI_1 q) (br_f (fun z => ?_) (ih (i + 1) f (q + 1) (by omega) (by omega) (by omega) (by omega) (by omega)))
        have := (yw_knk W (k := 26) (by omega)).mp z
        omega
      refine pk_eq (K (i + 1)) 21 (fun z => op (Or.inl z)) (fun z1 => pk_eq (K (i + 1)) 24 (fun z => op (Or.inr (Or.inl z))) (fun z2 => pk_eq (K (i + 1)) 25 (fun z => op (Or.inr (Or.inr z))) (fun z3 => pk_eq (K (i + 1)) 26 (fun z => ?_) (fun z => ?_))))
      · have d := gm_od_e z
        obtain ⟨q', rfl⟩ : ∃ x, q = x + 1 := ⟨q - 1, by omega⟩
        exact nm_r (pk_m1 q') (ih (i + 1) f q' (by omega) (by omega) (by omega) (by omega) (by omega))
      · have d := gm_od_n (K := K) (i := i + 1) (by omega) z
        exact ih (i + 1) f q (by omega) (by omega) (by omega) (by omega) (by omega)
  have bnd : gm_od K (c + 1) = gm_od K c + 1 := gm_od_o ho
  refine ⟨gm_e K c + 1, ?_⟩
  exact key (gm_e K c - c - 1) c _ 1 (by omega) (by omega) (Nat.le_refl _) (by omega) (by omega)
theorem yt_opener {post : Int32 → Prop} {K : Nat → Nat} {O : Nat → Int32} {len y o c : Nat} (W : gm_W K len) (hy : y + 30 ≤ 210) (hk : ys_k b_kind b_with y K O len) (hc : c < len) (hoc : o < c) (k26 : K c = 26) (eo : gm_e K o = c + 1) (o1 : gm_od K (gm_e K o) = gm_od K o) (o2 : ∀ x, o < x → x < gm_e K o → gm_od K o + 1 ≤ gm_od K x) (hp : post (nI (K o))) : wpY_opener post (g_nodes, g_inner, g_rules, g_place, g_listed, g_depth, g_row, g_pc, g_node, g_position, g_size, g_fault, g_put, g_steps, b_name, b_parent, b_value, b_kind, b_with, b_count, b_bodyAt, b_priority, b_given, b_there, b_wanted, b_waiting, b_within, b_list, b_left, b_reached, b_sizes, b_each, b_backRow, b_backPc, b_backNode, b_backPosition, b_backSize, b_output) (nI (y + c)) := by
  have hl := W.1
  have key : ∀ (s i f q : Nat), i = o + s → i ≤ c → s < f → (q : Int) = gm_od K i - gm_od K o → q + i < 100 → wY_opener_4 post g_nodes g_inner g_rules g_place g_listed g_depth g_row g_pc g_node g_position g_size g_fault g_put g_steps b_name b_parent b_value b_kind b_with b_count b_bodyAt b_priority b_given b_there b_wanted b_waiting b_within b_list b_left b_reached b_sizes b_each b_backRow b_backPc b_backNode b_backPosition b_backSize b_output f (nI q) (nI (y + i)) := by
    intro s
    induction s with
    | zero =>
      intro i f q hi hic hf hq _
      obtain ⟨f, rfl⟩ : ∃ x, f = x + 1 := ⟨f - 1, by omega⟩
      have e : i = o := by omega
      subst e
      have q0 : q = 0 := by omega
      subst q0
      refine br_t (by decide) ⟨vp_in_nI (by omega) (by omega), ?_⟩
      rw [nI_clamp (by omega), (hk i (by omega)).1]
      exact hp
    | succ s ih =>
      intro i f q hi hic hf hq q100
      obtain ⟨f, rfl⟩ : ∃ x, f = x + 1 := ⟨f - 1, by omega⟩
      have g := o2 i (by omega) (by omega)
      obtain ⟨j, rfl⟩ : ∃ j, i = j + 1 := ⟨i - 1, by omega⟩
      have jl : j < len := by omega
      have k27 := gm_k26 W j
      refine br_f (nI_nle (by omega) (by omega)) (nm_r (e' := nI (y + j)) (by rw [← Nat.add_assoc]; exact pk_m1 _) ⟨vp_in_nI (by omega) (by omega), nm_r (e' := nI (K j)) (by rw [nI_clamp (by omega)]; exact (hk j jl).1) ?_⟩)
      obtain ⟨q', rfl⟩ : ∃ x, q = x + 1 := ⟨q - 1, by omega⟩
      have op : (K j = 21 ∨ K j = 24 ∨ K j = 25) → wY_opener_40 post (wY_opener_4 post g_nodes g_inner g_rules g_place g_listed g_depth g_row g_pc g_node g_position g_size g_fault g_put g_steps b_name b_parent b_value b_kind b_with b_count b_bodyAt b_priority b_given b_there b_wanted b_waiting b_within b_list b_left b_reached b_sizes b_each b_backRow b_backPc b_backNode b_backPosition b_backSize b_output f) (nI (q' + 1)) (nI (y + j)) (nI (K j)) g_nodes g_inner g_rules g_place g_listed g_depth g_row g_pc g_node g_position g_size g_fault g_put g_steps b_name b_parent b_value b_kind b_with b_count b_bodyAt b_priority b_given b_there b_wanted b_waiting b_within b_list b_left b_reached b_sizes b_each b_backRow b_backPc b_backNode b_backPosition b_backSize b_output := fun h => by
        have d := gm_od_o h
        refine nm_r (pk_m1 q') (br_f (fun z => ?_) (ih j f q' (by omega) (by omega) (by omega) (by omega) (by omega)))
        have := (yw_knk W (k := 26) (by omega)).mp z
        omega
      refine pk_eq (K j) 21 (fun z => op (Or.inl z)) (fun z1 => pk_eq (K j) 24 (fun z => op (Or.inr (Or.inl z))) (fun z2 => pk_eq (K j) 25 (fun z => op (Or.inr (Or.inr z))) (fun z3 => pk_eq (K j) 26 (fun z => ?_) (fun z => ?_))))
      · have d := gm_od_e z
        exact nm_r (nI_1 (q' + 1)) (ih j f (q' + 2) (by omega) (by omega) (by omega) (by omega) (by omega))
      · have d := gm_od_n (K := K) (i := j) (by omega) z
        exact ih j f (q' + 1) (by omega) (by omega) (by omega) (by omega) (by omega)
  have d := gm_od_e k26
  rw [eo] at o1
  refine ⟨c + 1, key (c - o) c _ 1 (by omega) (Nat.le_refl _) (by omega) (by omega) (by omega)⟩
end
theorem gm_opp {K : Nat → Nat} {len c : Nat} (W : gm_W K len) (hc : c < len) (h : K c = 21 ∨ K c = 24 ∨ K c = 25) : gm_od K (gm_e K c) = gm_od K c ∧ (∀ x, c < x → x < gm_e K c → gm_od K c + 1 ≤ gm_od K x) ∧ gm_bp K len (gm_e K c) ∧ K (gm_e K c - 1) = 26 := by
  have L := W.2.2 c hc
  rcases h with h | h | h
  · obtain ⟨_, _, p3, _, p5, p6, p7⟩ := L.2.2.2.2.2.2.2.2.2.2.2.2.1 h
    exact ⟨p6, p7, p3, p5⟩
  · obtain ⟨_, _, _, _, p3, _, p5, p6, p7⟩ := L.2.2.2.2.2.2.2.2.2.2.2.2.2.2.2.1 h
    exact ⟨p6, p7, p3, p5⟩
  · obtain ⟨_, _, _, _, p3, _, p5, p6, p7⟩ := L.2.2.2.2.2.2.2.2.2.2.2.2.2.2.2.2.1 h
    exact ⟨p6, p7, p3, p5⟩
section
variable {f_nodeCount f_innermost f_draftLength f_rulesGiven f_wrongToken f_wantedCount f_inCondition f_depth f_cursor f_outcome f_outputCount f_stepsTaken : Int32} {a_names a_values a_parents a_kinds a_operands a_priorities a_givenAt a_wanted a_axes a_passing a_ends a_openers a_table a_results a_matched a_listLeft a_listNode a_listPosition a_listSize a_listBody a_listReturn a_outputs : Nat → Int32}
theorem xt_num {post : SX → Prop} {K : Nat → Nat} {len b c nd e oc : Nat} (ho : oc < 2 ^ 30) (he : e < 12) (W : gm_W K len) (hb : b + 32 ≤ 224) (hk : xs_k a_kinds b K) (hc : c + 1 < len) (k14 : K (c + 1) ≤ 14) (hE : ∀ x, x < len → a_ends (b + x) = nI (b + gm_e K x)) (hn : nd < 24) (hnd : a_listNode e = nI nd)
    (hp : ∀ res, (K c = 22 → post (f_nodeCount, f_innermost, f_draftLength, f_rulesGiven, f_wrongToken, f_wantedCount, f_inCondition, nI (e + 1), nI (b + gm_e K c), f_outcome, nI (oc + 1), f_stepsTaken, a_names, a_values, a_parents, a_kinds, a_operands, a_priorities, a_givenAt, a_wanted, a_axes, a_passing, a_ends, a_openers, a_table, res, a_matched, a_listLeft, a_listNode, a_listPosition, a_listSize, a_listBody, a_listReturn, tf_o a_outputs oc (nu_n K (fun x => a_operands (b + x)) a_values (fun x a => a_table ((b + x) * 24 + a)) nd (a_listPosition e) (a_listSize e) (c + 1)))) ∧
      (K c ≠ 22 → nu_n K (fun x => a_operands (b + x)) a_values (fun x a => a_table ((b + x) * 24 + a)) nd (a_listPosition e) (a_listSize e) (c + 1) = 0 → post (f_nodeCount, f_innermost, f_draftLength, f_rulesGiven, f_wrongToken, f_wantedCount, f_inCondition, nI (e + 1), nI (b + gm_e K c), f_outcome, nI oc, f_stepsTaken, a_names, a_values, a_parents, a_kinds, a_operands, a_priorities, a_givenAt, a_wanted, a_axes, a_passing, a_ends, a_openers, a_table, res, a_matched, a_listLeft, a_listNode, a_listPosition, a_listSize, a_listBody, a_listReturn, a_outputs)) ∧
      (K c ≠ 22 → ¬ nu_n K (fun x => a_operands (b + x)) a_values (fun x a => a_table ((b + x) * 24 + a)) nd (a_listPosition e) (a_listSize e) (c + 1) = 0 → post (f_nodeCount, f_innermost, f_draftLength, f_rulesGiven, f_wrongToken, f_wantedCount, f_inCondition, nI (e + 1), nI (b + gm_e K (c + 1)), f_outcome, nI oc, f_stepsTaken, a_names, a_values, a_parents, a_kinds, a_operands, a_priorities, a_givenAt, a_wanted, a_axes, a_passing, a_ends, a_openers, a_table, res, a_matched, a_listLeft, a_listNode, a_listPosition, a_listSize, a_listBody, a_listReturn, a_outputs))) :
    wpX_executeNumber post (f_nodeCount, f_innermost, f_draftLength, f_rulesGiven, f_wrongToken, f_wantedCount, f_inCondition, nI (e + 1), f_cursor, f_outcome, nI oc, f_stepsTaken, a_names, a_values, a_parents, a_kinds, a_operands, a_priorities, a_givenAt, a_wanted, a_axes, a_passing, a_ends, a_openers, a_table, a_results, a_matched, a_listLeft, a_listNode, a_listPosition, a_listSize, a_listBody, a_listReturn, a_outputs) (nI (b + c)) := by
  have hl := W.1
  have ce : (nI e).toNatClampNeg = e := nI_clamp (by omega)
  have ve : vp_in (nI e) 12 := vp_in_nI he (by omega)
  have vc : vp_in (nI (b + c)) 224 := vp_in_nI (by omega) (by omega)
  have cc : (nI (b + c)).toNatClampNeg = b + c := nI_clamp (by omega)
  have e1 : nI (b + c) + 1 = nI (b + (c + 1)) := by rw [nI_1, Nat.add_assoc]
  have c1 : (nI (b + (c + 1))).toNatClampNeg = b + (c + 1) := nI_clamp (by omega)
  have v1 : vp_in (nI (b + (c + 1))) 224 := vp_in_nI (by omega) (by omega)
  refine nm_r (nI_pred e) ⟨ve, ve, ve, ?_⟩
  rw [ce, hnd, e1, c1, cc]
  refine xw_numberAt W hb hk hc k14 (fun x _ x2 => hE x (by have := (W.2.2 (c + 1) hc).2.1; omega)) hn fun res => ⟨vc, ?_⟩
  obtain ⟨p1, p2, p3⟩ := hp res
  rw [hk c (by omega), hE c (by omega), hE (c + 1) hc]
  refine br_c (fun q => ?_) (fun q => ?_)
  · have q22 := (yw_knk W (k := 22) (by omega)).mp q
    exact xt_put ho ⟨vc, nm_r (e' := nI (b + gm_e K c)) (hE c (by omega)) (p1 q22)⟩
  · have q22 : K c ≠ 22 := fun z => q (by rw [z]; rfl)
    exact br_c (fun z => ⟨vc, nm_e (p2 q22 z)⟩) (fun z => ⟨v1, nm_e (p3 q22 z)⟩)
end
