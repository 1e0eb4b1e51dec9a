/-! slots changed; token, wipe, drop -/
def upS {α : Type} (f : Nat → α) (r : Nat) (x : α) : Nat → α := fun j => if j = r then x else f j
theorem upS_s {α : Type} {f : Nat → α} {r : Nat} {x : α} : upS f r x r = x := if_pos rfl
theorem upS_n {α : Type} {f : Nat → α} {r j : Nat} {x : α} (h : j ≠ r) : upS f r x j = f j := if_neg h
theorem rl_S_keep {A O B C A' O' B' C' : Nat → Int32} {K : Nat → Nat → Nat} {len : Nat → Nat} {r r0 l0 : Nat} {K0 : Nat → Nat} (h : rl_S A O B C K len r) (hne : r ≠ r0) (hA : ∀ y, (y < 32 * r0 ∨ 32 * r0 + 32 ≤ y) → A' y = A y) (hO : ∀ y, (y < 32 * r0 ∨ 32 * r0 + 32 ≤ y) → O' y = O y) (hB : ∀ y, (y < 30 * r0 ∨ 30 * r0 + 30 ≤ y) → B' y = B y) (hC : ∀ y, (y < 30 * r0 ∨ 30 * r0 + 30 ≤ y) → C' y = C y) : rl_S A' O' B' C' (upS K r0 K0) (upS len r0 l0) r := by
  unfold rl_S
  rw [upS_n hne, upS_n hne]
  obtain ⟨h1, h2, h3, h4, h5⟩ := h
  refine ⟨h1, h2, fun x hx => ?_, fun x hx => ?_, fun i hi => ⟨(h5 i hi).1, fun k => ?_⟩⟩
  · rw [hA _ (by omega)]; exact h3 x hx
  · show B' (30 * r + x) = nI (K r x) ∧ C' (30 * r + x) = O' (32 * r + x)
    rw [hB _ (by omega), hC _ (by omega), hO _ (by omega)]; exact h4 x hx
  · rw [hO _ (by omega)]; exact (h5 i hi).2 k
theorem rl_R_keep {k r r0 l0 : Nat} {K : Nat → Nat → Nat} {len : Nat → Nat} {K0 : Nat → Nat} {a_givenAt b_count b_bodyAt b_given b_there : Nat → Int32} (h : rl_R k K len a_givenAt b_count b_bodyAt b_given b_there r) (hne : r ≠ r0) : rl_R k (upS K r0 K0) (upS len r0 l0) a_givenAt b_count b_bodyAt b_given b_there r := by
  unfold rl_R
  rw [upS_n hne, upS_n hne]
  exact h
section
variable {f_nodeCount f_innermost f_draftLength f_rulesGiven f_wrongToken f_wantedCount f_inCondition f_depth f_cursor f_outcome f_outputCount f_stepsTaken : Int32} {a_names a_values a_parents a_kinds a_operands a_priorities a_givenAt a_wanted a_axes a_passing a_ends a_openers a_table a_results a_matched a_listLeft a_listNode a_listPosition a_listSize a_listBody a_listReturn a_outputs : Nat → Int32}
theorem xo_empty_l {post : SX → Prop} {s0 : Nat} (hs : s0 + 32 ≤ 224) (hp : ∀ A : Nat → Int32, (∀ c, c < 32 → A (s0 + c) = 27) → (∀ y, (y < s0 ∨ s0 + 32 ≤ y) → A y = a_kinds y) → post (f_nodeCount, f_innermost, f_draftLength, f_rulesGiven, f_wrongToken, f_wantedCount, f_inCondition, f_depth, f_cursor, f_outcome, f_outputCount, f_stepsTaken, a_names, a_values, a_parents, A, a_operands, a_priorities, a_givenAt, a_wanted, a_axes, a_passing, a_ends, a_openers, a_table, a_results, a_matched, a_listLeft, a_listNode, a_listPosition, a_listSize, a_listBody, a_listReturn, a_outputs)) :
    ∀ d i f A, i + d = 32 → d < f → (∀ c, c < i → A (s0 + c) = 27) → (∀ y, (y < s0 ∨ s0 + 32 ≤ y) → A y = a_kinds y) → wX_emptySlot_2 post (nI s0) f_nodeCount f_innermost f_draftLength f_rulesGiven f_wrongToken f_wantedCount f_inCondition f_depth f_cursor f_outcome f_outputCount f_stepsTaken f (nI i) a_names a_values a_parents A a_operands a_priorities a_givenAt a_wanted a_axes a_passing a_ends a_openers a_table a_results a_matched a_listLeft a_listNode a_listPosition a_listSize a_listBody a_listReturn a_outputs := by
  intro d
  induction d with
  | zero =>
    intro i f A hi hf h1 h2
    obtain ⟨f, rfl⟩ : ∃ x, f = x + 1 := ⟨f - 1, by omega⟩
    have e : i = 32 := by omega
    subst e
    exact br_t (by decide) (hp A h1 h2)
  | succ d ih =>
    intro i f A hi hf h1 h2
    obtain ⟨f, rfl⟩ : ∃ x, f = x + 1 := ⟨f - 1, by omega⟩
    have e : nI s0 + nI i = nI (s0 + i) := nI_add s0 i
    refine br_f (nI_ge (b := 32) (by omega) (by decide)) ⟨by rw [e]; exact vp_in_nI (by omega) (by omega), nm_r (e' := upd A (s0 + i) 27) (by rw [e, nI_clamp (by omega)]) (nm_r (nI_1 i) (ih (i + 1) f _ (by omega) (by omega) (fun c hc => ?_) (fun y hy => ?_)))⟩
    · rcases Nat.lt_or_ge c i with z | z
      · rw [pk_un (by omega)]; exact h1 c z
      · have : c = i := by omega
        rw [this, pk_us]
    · rw [pk_un (by omega)]; exact h2 y hy
theorem xo_empty {post : SX → Prop} {s0 : Nat} (hs : s0 + 32 ≤ 224) (hp : ∀ A : Nat → Int32, (∀ c, c < 32 → A (s0 + c) = 27) → (∀ y, (y < s0 ∨ s0 + 32 ≤ y) → A y = a_kinds y) → post (f_nodeCount, f_innermost, f_draftLength, f_rulesGiven, f_wrongToken, f_wantedCount, f_inCondition, f_depth, f_cursor, f_outcome, f_outputCount, f_stepsTaken, a_names, a_values, a_parents, A, a_operands, a_priorities, a_givenAt, a_wanted, a_axes, a_passing, a_ends, a_openers, a_table, a_results, a_matched, a_listLeft, a_listNode, a_listPosition, a_listSize, a_listBody, a_listReturn, a_outputs)) : wpX_emptySlot post (f_nodeCount, f_innermost, f_draftLength, f_rulesGiven, f_wrongToken, f_wantedCount, f_inCondition, f_depth, f_cursor, f_outcome, f_outputCount, f_stepsTaken, a_names, a_values, a_parents, a_kinds, a_operands, a_priorities, a_givenAt, a_wanted, a_axes, a_passing, a_ends, a_openers, a_table, a_results, a_matched, a_listLeft, a_listNode, a_listPosition, a_listSize, a_listBody, a_listReturn, a_outputs) (nI s0) :=
  ⟨33, xo_empty_l hs hp 32 0 33 a_kinds rfl (by omega) (fun c hc => absurd hc (by omega)) (fun _ _ => rfl)⟩
def tk (t : Nat) (v2 : Int32) : Prop := (t ≤ 17 ∨ (20 ≤ t ∧ t ≤ 26)) ∧ (t = 15 → ∃ v, v < 72 ∧ v % 8 < 7 ∧ v2 = nI v) ∧ (t = 21 → ∃ m, m < 6 ∧ v2 = nI m)
theorem xo_tokT {post : Int32 → Prop} {t : Nat} {v2 : Int32} (h : tk t v2) (hp : post 1) : wpX_isToken post (f_nodeCount, f_innermost, f_draftLength, f_rulesGiven, f_wrongToken, f_wantedCount, f_inCondition, f_depth, f_cursor, f_outcome, f_outputCount, f_stepsTaken, a_names, a_values, a_parents, a_kinds, a_operands, a_priorities, a_givenAt, a_wanted, a_axes, a_passing, a_ends, a_openers, a_table, a_results, a_matched, a_listLeft, a_listNode, a_listPosition, a_listSize, a_listBody, a_listReturn, a_outputs) (nI t) v2 := by
  have h1 := h.1
  by_cases t15 : t = 15
  · obtain ⟨v, hv, hv7, rfl⟩ := h.2.1 t15
    have e1 : nI v / 8 = nI (v / 8) := pk_div (d := 8) (by omega) (by omega) (by omega)
    have e2 : nI v - nI v / 8 * 8 = nI (v % 8) := pk_rem (d := 8) (by omega) (by omega) (by omega)
    refine br_t (by rw [t15]; rfl) (br_f (nI_pos (by omega)) ?_)
    rw [e2, e1]
    exact ⟨by decide, br_f (nI_ge (b := 9) (by omega) (by omega)) ⟨by decide, br_f (nI_ge (b := 7) hv7 (by omega)) hp⟩⟩
  refine br_f (fun z => t15 ((nI_eq (b := 15) (by omega) (by omega)).mp z)) ?_
  by_cases t21 : t = 21
  · obtain ⟨m, hm, rfl⟩ := h.2.2 t21
    exact br_t (by rw [t21]; rfl) (xo_nameT hm ⟨rfl, hp⟩)
  refine br_f (fun z => t21 ((nI_eq (b := 21) (by omega) (by omega)).mp z)) (br_f (nI_pos (by omega)) (pk_le t 17 (fun _ => hp) (fun q => ?_)))
  exact br_f (nI_nlt (b := 20) (by omega) (by omega)) (br_f (nI_nlt (a := 26) (by omega) (by omega)) hp)
theorem xo_tokN {post : Int32 → Prop} {v1 v2 : Int32} (h : v1 < 0) (hp : post 0) : wpX_isToken post (f_nodeCount, f_innermost, f_draftLength, f_rulesGiven, f_wrongToken, f_wantedCount, f_inCondition, f_depth, f_cursor, f_outcome, f_outputCount, f_stepsTaken, a_names, a_values, a_parents, a_kinds, a_operands, a_priorities, a_givenAt, a_wanted, a_axes, a_passing, a_ends, a_openers, a_table, a_results, a_matched, a_listLeft, a_listNode, a_listPosition, a_listSize, a_listBody, a_listReturn, a_outputs) v1 v2 := by
  have lt : ∀ {c : Int32}, 0 ≤ c → ¬ v1 = c := fun hc z => Int32.not_lt.mpr hc (z ▸ h)
  refine br_f (lt (by decide)) (br_f (lt (by decide)) (br_t h (br_t ?_ hp)))
  exact Int32.lt_trans h (by decide)
theorem xo_tokF {post : Int32 → Prop} {t : Nat} {v2 : Int32} (ht : t < 2 ^ 31) (h : ¬ tk t v2) (hp : post 0) : wpX_isToken post (f_nodeCount, f_innermost, f_draftLength, f_rulesGiven, f_wrongToken, f_wantedCount, f_inCondition, f_depth, f_cursor, f_outcome, f_outputCount, f_stepsTaken, a_names, a_values, a_parents, a_kinds, a_operands, a_priorities, a_givenAt, a_wanted, a_axes, a_passing, a_ends, a_openers, a_table, a_results, a_matched, a_listLeft, a_listNode, a_listPosition, a_listSize, a_listBody, a_listReturn, a_outputs) (nI t) v2 := by
  by_cases t15 : t = 15
  · refine br_t (by rw [t15]; rfl) (br_c (fun _ => hp) (fun z => ?_))
    obtain ⟨w, hw, rfl⟩ := nI_of z
    have e1 : nI w / 8 = nI (w / 8) := pk_div (d := 8) (by omega) (by omega) (by omega)
    have e2 : nI w - nI w / 8 * 8 = nI (w % 8) := pk_rem (d := 8) (by omega) (by omega) (by omega)
    rw [e2, e1]
    refine ⟨by decide, pk_le 9 (w / 8) (fun _ => hp) (fun q => ⟨by decide, pk_le 7 (w % 8) (fun _ => hp) (fun q2 => ?_)⟩)⟩
    exact absurd ⟨by omega, fun _ => ⟨w, by omega, q2, rfl⟩, fun y => by omega⟩ h
  refine br_f (fun z => t15 ((nI_eq (b := 15) ht (by omega)).mp z)) ?_
  by_cases t21 : t = 21
  · refine br_t (by rw [t21]; rfl) ?_
    rcases so_name v2 with q | ⟨m, hm, rfl⟩
    · exact xo_nameF q ⟨rfl, hp⟩
    · exact absurd ⟨by omega, fun y => absurd y t15, fun _ => ⟨m, hm, rfl⟩⟩ h
  refine br_f (fun z => t21 ((nI_eq (b := 21) ht (by omega)).mp z)) (br_f (nI_pos ht) (pk_le t 17 (fun q => ?_) (fun q => ?_)))
  · exact absurd ⟨Or.inl q, fun y => absurd y t15, fun y => absurd y t21⟩ h
  · by_cases q20 : t < 20
    · exact br_t (nI_lt (b := 20) q20 (by omega)) hp
    · refine br_f (nI_nlt (b := 20) (by omega) ht) ?_
      by_cases q26 : 26 < t
      · exact br_t (nI_lt (a := 26) q26 ht) hp
      · exact absurd ⟨Or.inr ⟨by omega, by omega⟩, fun y => absurd y t15, fun y => absurd y t21⟩ h
end
section
variable {g_nodes g_inner g_rules g_place g_listed g_depth g_row g_pc g_node g_position g_size g_fault g_put g_steps : Int32} {b_name b_parent b_value b_kind b_with b_count b_bodyAt b_priority b_given b_there b_wanted b_waiting b_within b_list b_left b_reached b_sizes b_each b_backRow b_backPc b_backNode b_backPosition b_backSize b_output : Nat → Int32}
theorem yo_27 {post : Int32 → SY → Prop} {v1 v2 : Int32} {A : Prop} (h1 : wY_token_27 post v1 v2 1 g_nodes g_inner g_rules g_place g_listed g_depth g_row g_pc g_node g_position g_size g_fault g_put g_steps b_name b_parent b_value b_kind b_with b_count b_bodyAt b_priority b_given b_there b_wanted b_waiting b_within b_list b_left b_reached b_sizes b_each b_backRow b_backPc b_backNode b_backPosition b_backSize b_output) (h0 : wY_token_27 post v1 v2 0 g_nodes g_inner g_rules g_place g_listed g_depth g_row g_pc g_node g_position g_size g_fault g_put g_steps b_name b_parent b_value b_kind b_with b_count b_bodyAt b_priority b_given b_there b_wanted b_waiting b_within b_list b_left b_reached b_sizes b_each b_backRow b_backPc b_backNode b_backPosition b_backSize b_output) : wpY_token post (g_nodes, g_inner, g_rules, g_place, g_listed, g_depth, g_row, g_pc, g_node, g_position, g_size, g_fault, g_put, g_steps, b_name, b_parent, b_value, b_kind, b_with, b_count, b_bodyAt, b_priority, b_given, b_there, b_wanted, b_waiting, b_within, b_list, b_left, b_reached, b_sizes, b_each, b_backRow, b_backPc, b_backNode, b_backPosition, b_backSize, b_output) v1 v2 :=
  br_c (fun _ => br_c (fun _ => h0) (fun _ => br_c (fun _ => h0) (fun _ => h1))) (fun _ => br_c (fun _ => h1) (fun _ => br_c (fun _ => h0) (fun _ => br_c (fun _ => h0) (fun _ => h1))))
theorem yo_tokF {post : Int32 → SY → Prop} {d : Nat} {v1 v2 : Int32} (hd : d ≤ 30) (hc : b_count 6 = nI d) (h : d = 30 ∨ v1 < 0 ∨ ∃ t, t < 2 ^ 31 ∧ v1 = nI t ∧ ¬ tk t v2) (hp : post 0 (g_nodes, g_inner, g_rules, g_place, g_listed, g_depth, g_row, g_pc, g_node, g_position, g_size, g_fault, g_put, g_steps, b_name, b_parent, b_value, b_kind, b_with, b_count, b_bodyAt, b_priority, b_given, b_there, b_wanted, b_waiting, b_within, b_list, b_left, b_reached, b_sizes, b_each, b_backRow, b_backPc, b_backNode, b_backPosition, b_backSize, b_output)) : wpY_token post (g_nodes, g_inner, g_rules, g_place, g_listed, g_depth, g_row, g_pc, g_node, g_position, g_size, g_fault, g_put, g_steps, b_name, b_parent, b_value, b_kind, b_with, b_count, b_bodyAt, b_priority, b_given, b_there, b_wanted, b_waiting, b_within, b_list, b_left, b_reached, b_sizes, b_each, b_backRow, b_backPc, b_backNode, b_backPosition, b_backSize, b_output) v1 v2 := by
  have z0 : wY_token_27 post v1 v2 0 g_nodes g_inner g_rules g_place g_listed g_depth g_row g_pc g_node g_position g_size g_fault g_put g_steps b_name b_parent b_value b_kind b_with b_count b_bodyAt b_priority b_given b_there b_wanted b_waiting b_within b_list b_left b_reached b_sizes b_each b_backRow b_backPc b_backNode b_backPosition b_backSize b_output := br_t rfl hp
  rcases h with rfl | h | ⟨t, ht, rfl, h⟩
  · exact yo_27 (A := True) (br_f (by decide) (br_t hc hp)) z0
  · exact br_t h (br_t (Int32.lt_trans h (by decide)) z0)
  · by_cases d30 : d = 30
    · subst d30
      exact yo_27 (A := True) (br_f (by decide) (br_t hc hp)) z0
    · have nc : ¬ b_count 6 = 30 := fun z => d30 (by rw [hc] at z; exact (nI_eq (b := 30) (by omega) (by omega)).mp z)
      by_cases rg : t ≤ 17 ∨ (20 ≤ t ∧ t ≤ 26)
      · refine yo_27 (A := True) (br_f (by decide) (br_f nc ?_)) z0
        by_cases t21 : t = 21
        · refine br_t (by rw [t21]; rfl) ?_
          rcases so_name v2 with q | ⟨m, hm, rfl⟩
          · exact yo_outF (n := 6) q (br_f (by decide) hp)
          · exact absurd ⟨rg, fun y => by omega, fun _ => ⟨m, hm, rfl⟩⟩ h
        · refine br_f (fun z => t21 ((nI_eq (b := 21) ht (by omega)).mp z)) ?_
          by_cases t15 : t = 15
          · refine br_t (by rw [t15]; rfl) ?_
            rcases so_ix v2 72 (by omega) with q | ⟨w, hw, rfl⟩
            · exact yo_outF (n := 72) q (br_f (by decide) hp)
            · have e7 : nI w &&& 7 = nI (w % 8) := pk_andN (by omega) 3 (by decide)
              refine yo_outT (n := 72) hw (by omega) (br_t rfl ?_)
              rw [e7]
              refine pk_eq (w % 8) 7 (fun _ => hp) (fun q => ?_)
              exact absurd ⟨rg, fun _ => ⟨w, hw, by omega, rfl⟩, fun y => by omega⟩ h
          · exact absurd ⟨rg, fun y => absurd y t15, fun y => absurd y t21⟩ h
      · refine br_f (nI_pos ht) (br_f (nI_ge (a := 17) (by omega) ht) ?_)
        by_cases q20 : t < 20
        · exact br_t (nI_lt (b := 20) q20 (by omega)) z0
        · exact br_f (nI_nlt (b := 20) (by omega) ht) (br_t (nI_lt (a := 26) (by omega) ht) z0)
theorem yo_tokT {post : Int32 → SY → Prop} {d t : Nat} {v2 : Int32} (hd : d < 30) (hc : b_count 6 = nI d) (h : tk t v2) (hp : post 1 (g_nodes, g_inner, g_rules, g_place, g_listed, g_depth, g_row, g_pc, g_node, g_position, g_size, g_fault, g_put, g_steps, b_name, b_parent, b_value, upd b_kind (180 + d) (nI t), upd b_with (180 + d) v2, upd b_count 6 (nI (d + 1)), b_bodyAt, b_priority, b_given, b_there, b_wanted, b_waiting, b_within, b_list, b_left, b_reached, b_sizes, b_each, b_backRow, b_backPc, b_backNode, b_backPosition, b_backSize, b_output)) : wpY_token post (g_nodes, g_inner, g_rules, g_place, g_listed, g_depth, g_row, g_pc, g_node, g_position, g_size, g_fault, g_put, g_steps, b_name, b_parent, b_value, b_kind, b_with, b_count, b_bodyAt, b_priority, b_given, b_there, b_wanted, b_waiting, b_within, b_list, b_left, b_reached, b_sizes, b_each, b_backRow, b_backPc, b_backNode, b_backPosition, b_backSize, b_output) (nI t) v2 := by
  have h1 := h.1
  have nc : ¬ b_count 6 = 30 := fun z => by
    rw [hc] at z
    have := (nI_eq (b := 30) (by omega) (by omega)).mp z
    omega
  have e180 : (180 : Int32) + nI d = nI (180 + d) := nI_add 180 d
  have c180 : (nI (180 + d)).toNatClampNeg = 180 + d := nI_clamp (by omega)
  have vi : vp_in (nI (180 + d)) 210 := vp_in_nI (by omega) (by omega)
  have w87 : wY_token_87 post (nI t) v2 g_nodes g_inner g_rules g_place g_listed g_depth g_row g_pc g_node g_position g_size g_fault g_put g_steps b_name b_parent b_value b_kind b_with b_count b_bodyAt b_priority b_given b_there b_wanted b_waiting b_within b_list b_left b_reached b_sizes b_each b_backRow b_backPc b_backNode b_backPosition b_backSize b_output := nm_r (e' := upd b_count 6 (nI (d + 1))) (by rw [hc, nI_1, yw_nar (by omega)]) (nm_r (e' := nI (180 + d)) (by rw [hc, e180]) ⟨vi, nm_r (e' := upd b_kind (180 + d) (nI t)) (by rw [c180, yw_nar (by omega)]) ⟨vi, nm_r (e' := upd b_with (180 + d) v2) (by rw [c180]) hp⟩⟩)
  have w61 : wY_token_61 post (nI t) v2 g_nodes g_inner g_rules g_place g_listed g_depth g_row g_pc g_node g_position g_size g_fault g_put g_steps b_name b_parent b_value b_kind b_with b_count b_bodyAt b_priority b_given b_there b_wanted b_waiting b_within b_list b_left b_reached b_sizes b_each b_backRow b_backPc b_backNode b_backPosition b_backSize b_output := by
    by_cases t15 : t = 15
    · obtain ⟨v, hv, hv7, rfl⟩ := h.2.1 t15
      have e7 : nI v &&& 7 = nI (v % 8) := pk_andN (by omega) 3 (by decide)
      refine br_t (by rw [t15]; rfl) (yo_outT (n := 72) hv (by omega) (br_t rfl ?_))
      rw [e7]
      exact pk_eq (v % 8) 7 (fun q => absurd q (by omega)) (fun _ => w87)
    · exact br_f (fun z => t15 ((nI_eq (b := 15) (by omega) (by omega)).mp z)) w87
  have w27 : wY_token_27 post (nI t) v2 1 g_nodes g_inner g_rules g_place g_listed g_depth g_row g_pc g_node g_position g_size g_fault g_put g_steps b_name b_parent b_value b_kind b_with b_count b_bodyAt b_priority b_given b_there b_wanted b_waiting b_within b_list b_left b_reached b_sizes b_each b_backRow b_backPc b_backNode b_backPosition b_backSize b_output := by
    refine br_f (by decide) (br_f nc ?_)
    by_cases t21 : t = 21
    · obtain ⟨m, hm, rfl⟩ := h.2.2 t21
      exact br_t (by rw [t21]; rfl) (yo_outT (n := 6) hm (by omega) (br_t rfl w61))
    · exact br_f (fun z => t21 ((nI_eq (b := 21) (by omega) (by omega)).mp z)) w61
  refine br_f (nI_pos (by omega)) (pk_le t 17 (fun _ => w27) (fun q => br_f (nI_nlt (b := 20) (by omega) (by omega)) (br_f (nI_nlt (a := 26) (by omega) (by omega)) w27)))
end
theorem i_vc_token {k : Nat} {u : SX} {v : SY} (I : i_Rel k u v) (hk : k + 4 ≤ 2048) (v1 : Int32) (v2 : Int32) : wpX_token (fun r u' => wpY_token (fun r' v' => r' = r ∧ i_Rel (k + 4) u' v') v v1 v2) u v1 v2 := by
  refine i_elim (Q := fun u v => wpX_token (fun r u' => wpY_token (fun r' v' => r' = r ∧ i_Rel (k + 4) u' v') v v1 v2) u v1 v2) I ?_
  intro n K len g f_innermost f_wrongToken f_wantedCount f_inCondition f_depth f_cursor f_outcome f_outputCount f_stepsTaken a_names a_values a_parents a_kinds a_operands a_priorities a_givenAt a_wanted a_axes a_passing a_ends a_openers a_table a_results a_matched a_listLeft a_listNode a_listPosition a_listSize a_listBody a_listReturn a_outputs g_listed g_depth g_row g_pc g_node g_position g_size g_fault b_kind b_with b_count b_bodyAt b_given b_there b_wanted b_waiting b_within b_list b_left b_reached b_sizes b_each b_backRow b_backPc b_backNode b_backPosition b_backSize R
  have R4 := rl_up (k' := k + 4) (by omega) R
  obtain ⟨h1, h2, h3, h4, h5, h6, h7⟩ := R4
  obtain ⟨s1, s2, s3, s4, s5⟩ := h6 6 (by omega)
  have fl : ∀ {x : Prop}, (len 6 = 30 ∨ v1 < 0 ∨ ∃ t, t < 2 ^ 31 ∧ v1 = nI t ∧ ¬ tk t v2) → wpY_token (fun r' v' => r' = 0 ∧ i_Rel (k + 4) (nI n, f_innermost, nI (len 6), nI g, f_wrongToken, f_wantedCount, f_inCondition, f_depth, f_cursor, f_outcome, f_outputCount, f_stepsTaken, a_names, a_values, a_parents, a_kinds, a_operands, a_priorities, a_givenAt, a_wanted, a_axes, a_passing, a_ends, a_openers, a_table, a_results, a_matched, a_listLeft, a_listNode, a_listPosition, a_listSize, a_listBody, a_listReturn, a_outputs) v') (nI n, f_innermost, nI g, f_wrongToken, g_listed, g_depth, g_row, g_pc, g_node, g_position, g_size, g_fault, f_outputCount, f_stepsTaken, a_names, a_parents, a_values, b_kind, b_with, b_count, b_bodyAt, a_priorities, b_given, b_there, b_wanted, b_waiting, b_within, b_list, b_left, b_reached, b_sizes, b_each, b_backRow, b_backPc, b_backNode, b_backPosition, b_backSize, a_outputs) v1 v2 := fun h => yo_tokF s1 h5 h ⟨rfl, i_mk (K := K) ⟨h1, h2, h3, h4, h5, h6, h7⟩⟩
  by_cases d30 : len 6 = 30
  · refine br_t (nI_le (a := 30) (by omega) (by omega)) (fl (x := True) (Or.inl d30))
  refine br_f (nI_ge (b := 30) (by omega) (by omega)) ?_
  rcases Classical.em (v1 < 0) with hv | hv
  · exact xo_tokN hv (br_t rfl (fl (x := True) (Or.inr (Or.inl hv))))
  obtain ⟨t, ht, rfl⟩ := nI_of hv
  by_cases htk : tk t v2
  · have e192 : (192 : Int32) + nI (len 6) = nI (192 + len 6) := nI_add 192 _
    have c192 : (nI (192 + len 6)).toNatClampNeg = 192 + len 6 := nI_clamp (by omega)
    have vi : vp_in (192 + nI (len 6)) 224 := by rw [e192]; exact vp_in_nI (by omega) (by omega)
    refine xo_tokT htk (br_f (by decide) ⟨vi, nm_r (e' := upd a_kinds (192 + len 6) (nI t)) (by rw [e192, c192]) ⟨vi, nm_r (e' := upd a_operands (192 + len 6) v2) (by rw [e192, c192]) (nm_r (nI_1 (len 6)) (yo_tokT (by omega) h5 htk ⟨rfl, ?_⟩))⟩⟩)
    have := i_mk (k := k + 4) (n := n) (g := g) (K := upS K 6 (fun i => if i = len 6 then t else K 6 i)) (len := upS len 6 (len 6 + 1)) (f_innermost := f_innermost) (f_wrongToken := f_wrongToken) (f_wantedCount := f_wantedCount) (f_inCondition := f_inCondition) (f_depth := f_depth) (f_cursor := f_cursor) (f_outcome := f_outcome) (f_outputCount := f_outputCount) (f_stepsTaken := f_stepsTaken) (a_names := a_names) (a_values := a_values) (a_parents := a_parents) (a_kinds := upd a_kinds (192 + len 6) (nI t)) (a_operands := upd a_operands (192 + len 6) v2) (a_priorities := a_priorities) (a_givenAt := a_givenAt) (a_wanted := a_wanted) (a_axes := a_axes) (a_passing := a_passing) (a_ends := a_ends) (a_openers := a_openers) (a_table := a_table) (a_results := a_results) (a_matched := a_matched) (a_listLeft := a_listLeft) (a_listNode := a_listNode) (a_listPosition := a_listPosition) (a_listSize := a_listSize) (a_listBody := a_listBody) (a_listReturn := a_listReturn) (a_outputs := a_outputs) (g_listed := g_listed) (g_depth := g_depth) (g_row := g_row) (g_pc := g_pc) (g_node := g_node) (g_position := g_position) (g_size := g_size) (g_fault := g_fault) (b_kind := upd b_kind (180 + len 6) (nI t)) (b_with := upd b_with (180 + len 6) v2) (b_count := upd b_count 6 (nI (len 6 + 1))) (b_bodyAt := b_bodyAt) (b_given := b_given) (b_there := b_there) (b_wanted := b_wanted) (b_waiting := b_waiting) (b_within := b_within) (b_list := b_list) (b_left := b_left) (b_reached := b_reached) (b_sizes := b_sizes) (b_each := b_each) (b_backRow := b_backRow) (b_backPc := b_backPc) (b_backNode := b_backNode) (b_backPosition := b_backPosition) (b_backSize := b_backSize) ?_
    · rw [upS_s] at this; exact this
    · refine ⟨h1, h2, h3, h4, by rw [pk_us, upS_s], fun r hr => ?_, fun r hr => ?_⟩
      · by_cases e : r = 6
        · subst e
          unfold rl_S
          rw [upS_s, upS_s]
          refine ⟨by omega, fun i hi => ?_, fun x hx => ?_, fun x hx => ?_, fun i hi => ?_⟩
          · show (if i = len 6 then t else K 6 i) = 27
            rw [if_neg (by omega)]; exact s2 i (by omega)
          · show _ = nI (if x = len 6 then t else K 6 x)
            by_cases z : x = len 6
            · rw [z, if_pos rfl, show 32 * 6 + len 6 = 192 + len 6 by omega, pk_us]
            · rw [if_neg z, pk_un (by omega)]; exact s3 x hx
          · show _ = nI (if x = len 6 then t else K 6 x) ∧ _
            by_cases z : x = len 6
            · rw [z, if_pos rfl, show 30 * 6 + len 6 = 180 + len 6 by omega, pk_us, pk_us]
              refine ⟨rfl, ?_⟩
              show v2 = upd a_operands (192 + len 6) v2 (32 * 6 + len 6)
              rw [show 32 * 6 + len 6 = 192 + len 6 by omega, pk_us]
            · rw [if_neg z, pk_un (by omega), pk_un (by omega)]
              refine ⟨(s4 x (by omega)).1, ?_⟩
              show b_with (30 * 6 + x) = upd a_operands (192 + len 6) v2 (32 * 6 + x)
              rw [pk_un (by omega)]
              exact (s4 x (by omega)).2
          · show (if i = len 6 then t else K 6 i) ≤ 26 ∧ ((if i = len 6 then t else K 6 i) = 15 → _)
            by_cases z : i = len 6
            · rw [z, if_pos rfl, show 32 * 6 + len 6 = 192 + len 6 by omega, pk_us]
              exact ⟨by have := htk.1; omega, htk.2.1⟩
            · rw [if_neg z, pk_un (by omega)]; exact s5 i (by omega)
        · exact rl_S_keep (h6 r hr) e (fun y hy => pk_un (by omega)) (fun y hy => pk_un (by omega)) (fun y hy => pk_un (by omega)) (fun y hy => pk_un (by omega))
      · have e : r ≠ 6 := by omega
        refine rl_R_keep ?_ e
        unfold rl_R
        rw [pk_un e]
        exact h7 r hr
  · exact xo_tokF ht htk (br_t rfl (fl (x := True) (Or.inr (Or.inr ⟨t, ht, rfl, htk⟩))))
