/-! the reference: misfit -/
variable {g_nodes g_inner g_rules g_place g_listed g_depth g_row g_pc g_node g_position g_size g_fault g_put g_steps : Int32} {b_name b_parent b_value b_kind b_with b_count b_bodyAt b_priority b_given b_there b_wanted b_waiting b_within b_list b_left b_reached b_sizes b_each b_backRow b_backPc b_backNode b_backPosition b_backSize b_output : Nat → Int32}
theorem yg_65 {post : Int32 → SY → Prop} {J : Int32 → Int32 → Int32 → Int32 → Int32 → Int32 → Int32 → Int32 → Int32 → Int32 → Int32 → Int32 → Int32 → Int32 → Int32 → Int32 → (Nat → Int32) → (Nat → Int32) → (Nat → Int32) → (Nat → Int32) → (Nat → Int32) → (Nat → Int32) → (Nat → Int32) → (Nat → Int32) → (Nat → Int32) → (Nat → Int32) → (Nat → Int32) → (Nat → Int32) → (Nat → Int32) → (Nat → Int32) → (Nat → Int32) → (Nat → Int32) → (Nat → Int32) → (Nat → Int32) → (Nat → Int32) → (Nat → Int32) → (Nat → Int32) → (Nat → Int32) → (Nat → Int32) → (Nat → Int32) → Prop} {x3 : Int32} {i t : Nat} {z : Bool} (ht : t < 100) : ∀ (s : List Nat) (c : Bool) (f : Nat) (w : Nat → Int32), sk_ok z c s → sk w s → s.length ≤ 60 → s.length < f →
    (gm_st t s = none → ∀ w', post (nI i) (g_nodes, g_inner, g_rules, g_place, g_listed, g_depth, g_row, g_pc, g_node, g_position, g_size, g_fault, g_put, g_steps, b_name, b_parent, b_value, b_kind, b_with, b_count, b_bodyAt, b_priority, b_given, b_there, w', b_waiting, b_within, b_list, b_left, b_reached, b_sizes, b_each, b_backRow, b_backPc, b_backNode, b_backPosition, b_backSize, b_output)) → (∀ s', gm_st t s = some s' → ∀ w', sk w' s' → J (nI s'.length) (nI (i + 1)) g_nodes g_inner g_rules g_place g_listed g_depth g_row g_pc g_node g_position g_size g_fault g_put g_steps b_name b_parent b_value b_kind b_with b_count b_bodyAt b_priority b_given b_there w' b_waiting b_within b_list b_left b_reached b_sizes b_each b_backRow b_backPc b_backNode b_backPosition b_backSize b_output) →
    wY_misfit_65 post J x3 (nI i) (nI t) g_nodes g_inner g_rules g_place g_listed g_depth g_row g_pc g_node g_position g_size g_fault g_put g_steps b_name b_parent b_value b_kind b_with b_count b_bodyAt b_priority b_given b_there w b_waiting b_within b_list b_left b_reached b_sizes b_each b_backRow b_backPc b_backNode b_backPosition b_backSize b_output f (nI s.length) := by
  intro s
  induction s with
  | nil =>
    intro c f w _ _ _ hf h0 _
    obtain ⟨f, rfl⟩ : ∃ x, f = x + 1 := ⟨f - 1, by omega⟩
    exact br_t (by decide) (br_t (by decide) (h0 rfl w))
  | cons a s ih =>
    intro c f w hok hw hl hf h0 h1
    obtain ⟨f, rfl⟩ : ∃ x, f = x + 1 := ⟨f - 1, by omega⟩
    have hl' : s.length + 1 ≤ 60 := hl
    have hf' : s.length + 1 < f + 1 := hf
    have e1 : nI (s.length + 1) - 1 = nI s.length := nI_pred _
    have c1 : (nI s.length).toNatClampNeg = s.length := nI_clamp (by omega)
    have a8 := sk_ok8 hok a (List.mem_cons.mpr (Or.inl rfl))
    have shape : (a = 4 ∨ a = 7) → sk_ok z c s := by
      intro h
      cases c
      · rcases hok with ⟨q, _⟩ | ⟨_, _, q⟩
        · omega
        · exact q
      · rcases hok with ⟨q, _⟩ | ⟨_, _, q⟩
        · omega
        · exact q
    have pop : (a = 4 ∨ a = 7) → gm_st t (a :: s) = gm_st t s → ∀ x2, x2 = nI (s.length + 1) + (-1) → wY_misfit_65 post J x3 (nI i) (nI t) g_nodes g_inner g_rules g_place g_listed g_depth g_row g_pc g_node g_position g_size g_fault g_put g_steps b_name b_parent b_value b_kind b_with b_count b_bodyAt b_priority b_given b_there w b_waiting b_within b_list b_left b_reached b_sizes b_each b_backRow b_backPc b_backNode b_backPosition b_backSize b_output f x2 := fun h e => nm_r (pk_m1 _) (ih c f w (shape h) hw.2 (by omega) (by omega) (fun q => h0 (e.trans q)) (fun s' q => h1 s' (e.trans q)))
    have w95 : ¬ (a = 4 ∧ t ≠ 15 ∧ t ≠ 16) → wY_misfit_95 post J (wY_misfit_65 post J x3 (nI i) (nI t) g_nodes g_inner g_rules g_place g_listed g_depth g_row g_pc g_node g_position g_size g_fault g_put g_steps b_name b_parent b_value b_kind b_with b_count b_bodyAt b_priority b_given b_there w b_waiting b_within b_list b_left b_reached b_sizes b_each b_backRow b_backPc b_backNode b_backPosition b_backSize b_output f) (nI (s.length + 1)) x3 (nI i) (nI t) g_nodes g_inner g_rules g_place g_listed g_depth g_row g_pc g_node g_position g_size g_fault g_put g_steps b_name b_parent b_value b_kind b_with b_count b_bodyAt b_priority b_given b_there w b_waiting b_within b_list b_left b_reached b_sizes b_each b_backRow b_backPc b_backNode b_backPosition b_backSize b_output := fun h4 => by
      have w121 : ¬ (a = 7 ∧ t ≠ 15) → wY_misfit_121 post J (nI (s.length + 1)) x3 (nI i) (nI t) g_nodes g_inner g_rules g_place g_listed g_depth g_row g_pc g_node g_position g_size g_fault g_put g_steps b_name b_parent b_value b_kind b_with b_count b_bodyAt b_priority b_given b_there w b_waiting b_within b_list b_left b_reached b_sizes b_each b_backRow b_backPc b_backNode b_backPosition b_backSize b_output := fun h7 => yg_121 (b_wanted := w) (s := s) (a := a) ht (by omega) hok hw h7 h4 h0 h1
      unfold wY_misfit_95
      rw [e1, c1, hw.1]
      refine ⟨yg_in (by omega), pk_eq a 7 (fun q => pk_eq t 15 (fun q2 => w121 (fun y => y.2 q2)) (fun q2 => pop (Or.inr q) ?_)) (fun q => w121 (fun y => q y.1))⟩
      rw [q, gm_st7, if_neg q2]
    show wY_misfit_65 post J x3 (nI i) (nI t) g_nodes g_inner g_rules g_place g_listed g_depth g_row g_pc g_node g_position g_size g_fault g_put g_steps b_name b_parent b_value b_kind b_with b_count b_bodyAt b_priority b_given b_there w b_waiting b_within b_list b_left b_reached b_sizes b_each b_backRow b_backPc b_backNode b_backPosition b_backSize b_output (f + 1) (nI (s.length + 1))
    refine br_f (nI_nle (by omega) (by omega)) ?_
    rw [e1, c1, hw.1]
    refine ⟨yg_in (by omega), pk_eq a 4 (fun q => pk_eq t 15 (fun q2 => w95 (fun y => y.2.1 q2)) (fun q2 => pk_eq t 16 (fun q3 => w95 (fun y => y.2.2 q3)) (fun q3 => pop (Or.inl q) ?_))) (fun q => w95 (fun y => q y.1))⟩
    rw [q, gm_st4, if_neg q2, if_neg q3]
theorem yg_227 {post : Int32 → SY → Prop} {x3 : Int32} {z : Bool} : ∀ (s : List Nat) (c : Bool) (f : Nat), sk_ok z c s → sk b_wanted s → s.length ≤ 62 → s.length < f →
    ((∀ v, v ∈ s → v = 0 ∨ v = 4 ∨ v = 7) → post (-1) (g_nodes, g_inner, g_rules, g_place, g_listed, g_depth, g_row, g_pc, g_node, g_position, g_size, g_fault, g_put, g_steps, b_name, b_parent, b_value, b_kind, b_with, b_count, b_bodyAt, b_priority, b_given, b_there, b_wanted, b_waiting, b_within, b_list, b_left, b_reached, b_sizes, b_each, b_backRow, b_backPc, b_backNode, b_backPosition, b_backSize, b_output)) → (¬ (∀ v, v ∈ s → v = 0 ∨ v = 4 ∨ v = 7) → post x3 (g_nodes, g_inner, g_rules, g_place, g_listed, g_depth, g_row, g_pc, g_node, g_position, g_size, g_fault, g_put, g_steps, b_name, b_parent, b_value, b_kind, b_with, b_count, b_bodyAt, b_priority, b_given, b_there, b_wanted, b_waiting, b_within, b_list, b_left, b_reached, b_sizes, b_each, b_backRow, b_backPc, b_backNode, b_backPosition, b_backSize, b_output)) → wY_misfit_227 post x3 g_nodes g_inner g_rules g_place g_listed g_depth g_row g_pc g_node g_position g_size g_fault g_put g_steps b_name b_parent b_value b_kind b_with b_count b_bodyAt b_priority b_given b_there b_wanted b_waiting b_within b_list b_left b_reached b_sizes b_each b_backRow b_backPc b_backNode b_backPosition b_backSize b_output f (nI s.length) := by
  intro s
  induction s with
  | nil =>
    intro c f _ _ _ hf h1 _
    obtain ⟨f, rfl⟩ : ∃ x, f = x + 1 := ⟨f - 1, by omega⟩
    exact br_t (by decide) (br_t (by decide) (br_f (by decide) (h1 fun v hv => absurd hv (by simp))))
  | cons a s ih =>
    intro c f hok hw hl hf h1 h0
    obtain ⟨f, rfl⟩ : ∃ x, f = x + 1 := ⟨f - 1, by omega⟩
    have hl' : s.length + 1 ≤ 62 := hl
    have hf' : s.length + 1 < f + 1 := hf
    have e1 : nI (s.length + 1) - 1 = nI s.length := nI_pred _
    have c1 : (nI s.length).toNatClampNeg = s.length := nI_clamp (by omega)
    have a8 := sk_ok8 hok a (List.mem_cons.mpr (Or.inl rfl))
    have shape : (a = 4 ∨ a = 7) → sk_ok z c s := by
      intro h
      cases c
      · rcases hok with ⟨q, _⟩ | ⟨_, _, q⟩
        · omega
        · exact q
      · rcases hok with ⟨q, _⟩ | ⟨_, _, q⟩
        · omega
        · exact q
    have gd : (a = 4 ∨ a = 7) → ((∀ v, v ∈ a :: s → v = 0 ∨ v = 4 ∨ v = 7) ↔ ∀ v, v ∈ s → v = 0 ∨ v = 4 ∨ v = 7) := fun h => by
      constructor
      · exact fun q v hv => q v (List.mem_cons.mpr (Or.inr hv))
      · intro q v hv
        rcases List.mem_cons.mp hv with e | e
        · omega
        · exact q v e
    have pop : (a = 4 ∨ a = 7) → ∀ x2, x2 = nI (s.length + 1) + (-1) → wY_misfit_227 post x3 g_nodes g_inner g_rules g_place g_listed g_depth g_row g_pc g_node g_position g_size g_fault g_put g_steps b_name b_parent b_value b_kind b_with b_count b_bodyAt b_priority b_given b_there b_wanted b_waiting b_within b_list b_left b_reached b_sizes b_each b_backRow b_backPc b_backNode b_backPosition b_backSize b_output f x2 := fun h => nm_r (pk_m1 _) (ih c f (shape h) hw.2 (by omega) (by omega) (fun q => h1 ((gd h).mpr q)) (fun q => h0 (fun y => q ((gd h).mp y))))
    show wY_misfit_227 post x3 g_nodes g_inner g_rules g_place g_listed g_depth g_row g_pc g_node g_position g_size g_fault g_put g_steps b_name b_parent b_value b_kind b_with b_count b_bodyAt b_priority b_given b_there b_wanted b_waiting b_within b_list b_left b_reached b_sizes b_each b_backRow b_backPc b_backNode b_backPosition b_backSize b_output (f + 1) (nI (s.length + 1))
    refine br_f (nI_nle (by omega) (by omega)) ?_
    rw [e1, c1, hw.1]
    refine ⟨yg_in (by omega), pk_eq a 4 (fun q => pop (Or.inl q)) (fun q4 => ⟨yg_in (by omega), pk_eq a 7 (fun q => pop (Or.inr q)) (fun q7 => ?_)⟩)⟩
    by_cases ha : a = 0
    · have sn : s = [] := by
        cases c
        · rcases hok with ⟨_, q, _⟩ | ⟨q, _⟩
          · exact q
          · omega
        · rcases hok with ⟨q, _⟩ | ⟨q, _⟩ <;> omega
      subst sn ha
      have w0 : b_wanted 0 = 0 := hw.1
      exact br_f (by decide) (br_t (by decide) (br_t w0 (br_f (by decide) (h1 fun v hv => Or.inl (by simpa using hv)))))
    · have bad : ¬ (∀ v, v ∈ a :: s → v = 0 ∨ v = 4 ∨ v = 7) := fun q => by
        have := q a (List.mem_cons.mpr (Or.inl rfl)); omega
      refine br_f (nI_ne0 (by omega) (by omega)) (pk_eq (s.length + 1) 1 (fun q => ?_) (fun _ => br_t rfl (h0 bad)))
      have s0 : s.length = 0 := by omega
      have w0 : b_wanted 0 = nI a := by rw [← s0]; exact hw.1
      rw [w0]
      exact pk_eq a 0 (fun y => absurd y ha) (fun _ => br_t rfl (h0 bad))
theorem yg_46 {post : Int32 → SY → Prop} {K : Nat → Nat} {O : Nat → Int32} {len : Nat} {z : Bool} (hl : len ≤ 30) (hk : ys_k b_kind b_with 180 K O len) (h100 : ∀ i, i < len → K i < 100) :
    ∀ d i s c f w, i + d = len → d < f → sk_ok z c s → sk w s → s.length ≤ 2 + 2 * i → (gm_run K d i s = none → ∀ w', post (-1) (g_nodes, g_inner, g_rules, g_place, g_listed, g_depth, g_row, g_pc, g_node, g_position, g_size, g_fault, g_put, g_steps, b_name, b_parent, b_value, b_kind, b_with, b_count, b_bodyAt, b_priority, b_given, b_there, w', b_waiting, b_within, b_list, b_left, b_reached, b_sizes, b_each, b_backRow, b_backPc, b_backNode, b_backPosition, b_backSize, b_output)) → (∀ p, gm_run K d i s = some p → ∀ w', post (nI p) (g_nodes, g_inner, g_rules, g_place, g_listed, g_depth, g_row, g_pc, g_node, g_position, g_size, g_fault, g_put, g_steps, b_name, b_parent, b_value, b_kind, b_with, b_count, b_bodyAt, b_priority, b_given, b_there, w', b_waiting, b_within, b_list, b_left, b_reached, b_sizes, b_each, b_backRow, b_backPc, b_backNode, b_backPosition, b_backSize, b_output)) →
      wY_misfit_46 post (nI len) f (nI s.length) (nI i) g_nodes g_inner g_rules g_place g_listed g_depth g_row g_pc g_node g_position g_size g_fault g_put g_steps b_name b_parent b_value b_kind b_with b_count b_bodyAt b_priority b_given b_there w b_waiting b_within b_list b_left b_reached b_sizes b_each b_backRow b_backPc b_backNode b_backPosition b_backSize b_output := by
  intro d
  induction d with
  | zero =>
    intro i s c f w hi hf hok hw hs hN hS
    obtain ⟨f, rfl⟩ : ∃ x, f = x + 1 := ⟨f - 1, by omega⟩
    have e : i = len := by omega
    subst e
    rw [gm_run] at hN hS
    exact br_t (nI_le (Nat.le_refl _) (by omega)) ⟨s.length + 1, yg_227 (b_wanted := w) s c _ hok hw (by omega) (by omega) (fun q => hN (if_pos q) _) (fun q => hS i (if_neg q) _)⟩
  | succ d ih =>
    intro i s c f w hi hf hok hw hs hN hS
    obtain ⟨f, rfl⟩ : ∃ x, f = x + 1 := ⟨f - 1, by omega⟩
    have e180 : (180 : Int32) + nI i = nI (180 + i) := nI_add 180 i
    rw [gm_run] at hN hS
    refine br_f (nI_ge (by omega) (by omega)) ⟨by rw [e180]; exact vp_in_nI (by omega) (by omega), nm_r (e' := nI (K i)) (by rw [e180, nI_clamp (by omega)]; exact (hk i (by omega)).1) ⟨s.length + 1, yg_65 (h100 i (by omega)) s c _ w hok hw (by omega) (by omega) (fun q w' => ?_) (fun s' q w' hw' => ?_)⟩⟩
    · rw [q] at hS
      exact hS i rfl w'
    · rw [q] at hN hS
      obtain ⟨c2, hok2, hlen⟩ := sk_st hok q
      exact ih (i + 1) s' c2 f w' (by omega) (by omega) hok2 hw' (by omega) hN hS
theorem yg_misfit0 {post : Int32 → SY → Prop} {K : Nat → Nat} {O : Nat → Int32} {len : Nat} (hl : len ≤ 30) (hk : ys_k b_kind b_with 180 K O len) (hc : b_count 6 = nI len) (h100 : ∀ i, i < len → K i < 100) (hN : gm_run K len 0 [3, 0] = none → ∀ w', post (-1) (g_nodes, g_inner, g_rules, g_place, g_listed, g_depth, g_row, g_pc, g_node, g_position, g_size, g_fault, g_put, g_steps, b_name, b_parent, b_value, b_kind, b_with, b_count, b_bodyAt, b_priority, b_given, b_there, w', b_waiting, b_within, b_list, b_left, b_reached, b_sizes, b_each, b_backRow, b_backPc, b_backNode, b_backPosition, b_backSize, b_output)) (hS : ∀ p, gm_run K len 0 [3, 0] = some p → ∀ w', post (nI p) (g_nodes, g_inner, g_rules, g_place, g_listed, g_depth, g_row, g_pc, g_node, g_position, g_size, g_fault, g_put, g_steps, b_name, b_parent, b_value, b_kind, b_with, b_count, b_bodyAt, b_priority, b_given, b_there, w', b_waiting, b_within, b_list, b_left, b_reached, b_sizes, b_each, b_backRow, b_backPc, b_backNode, b_backPosition, b_backSize, b_output)) : wpY_misfit post (g_nodes, g_inner, g_rules, g_place, g_listed, g_depth, g_row, g_pc, g_node, g_position, g_size, g_fault, g_put, g_steps, b_name, b_parent, b_value, b_kind, b_with, b_count, b_bodyAt, b_priority, b_given, b_there, b_wanted, b_waiting, b_within, b_list, b_left, b_reached, b_sizes, b_each, b_backRow, b_backPc, b_backNode, b_backPosition, b_backSize, b_output) 0 := by
  have n0 : vp_nar .byte 0 = nI 0 := yg_nar (m := 0) (by omega)
  have n3 : vp_nar .byte ((3 : Int32).toInt8.toInt32) = nI 3 := yw_nar (m := 3) (by omega)
  refine br_t rfl (nm_r (e' := nI 1) rfl (nm_r (e' := upd b_wanted 0 (nI 0)) (by rw [n0]) (nm_r (e' := nI 2) rfl (br_t rfl ⟨yg_in (k := 1) (by omega), nm_r (e' := upd (upd b_wanted 0 (nI 0)) 1 (nI 3)) ?_ (nm_r (e' := nI len) hc ⟨len + 1, ?_⟩)⟩))))
  · rw [n3]; rfl
  · exact yg_46 (z := true) hl hk h100 len 0 [3, 0] false (len + 1) _ (by omega) (by omega) (by simp [sk_ok, sk_out]) ⟨pk_us, pk_un (by decide), trivial⟩ (by simp) hN hS
theorem yg_misfit1 {post : Int32 → SY → Prop} {K : Nat → Nat} {O : Nat → Int32} {len v : Nat} (hv : v = 2 ∨ v = 3) (hl : len ≤ 30) (hk : ys_k b_kind b_with 180 K O len) (hc : b_count 6 = nI len) (h100 : ∀ i, i < len → K i < 100) (hN : gm_run K len 0 [v] = none → ∀ w', post (-1) (g_nodes, g_inner, g_rules, g_place, g_listed, g_depth, g_row, g_pc, g_node, g_position, g_size, g_fault, g_put, g_steps, b_name, b_parent, b_value, b_kind, b_with, b_count, b_bodyAt, b_priority, b_given, b_there, w', b_waiting, b_within, b_list, b_left, b_reached, b_sizes, b_each, b_backRow, b_backPc, b_backNode, b_backPosition, b_backSize, b_output)) (hS : ∀ p, gm_run K len 0 [v] = some p → ∀ w', post (nI p) (g_nodes, g_inner, g_rules, g_place, g_listed, g_depth, g_row, g_pc, g_node, g_position, g_size, g_fault, g_put, g_steps, b_name, b_parent, b_value, b_kind, b_with, b_count, b_bodyAt, b_priority, b_given, b_there, w', b_waiting, b_within, b_list, b_left, b_reached, b_sizes, b_each, b_backRow, b_backPc, b_backNode, b_backPosition, b_backSize, b_output)) : wpY_misfit post (g_nodes, g_inner, g_rules, g_place, g_listed, g_depth, g_row, g_pc, g_node, g_position, g_size, g_fault, g_put, g_steps, b_name, b_parent, b_value, b_kind, b_with, b_count, b_bodyAt, b_priority, b_given, b_there, b_wanted, b_waiting, b_within, b_list, b_left, b_reached, b_sizes, b_each, b_backRow, b_backPc, b_backNode, b_backPosition, b_backSize, b_output) (nI v) := by
  have nv : vp_nar .byte (nI v).toInt8.toInt32 = nI v := yw_nar (by omega)
  have n0 : ¬ nI v = 0 := nI_ne0 (by omega) (by omega)
  refine br_f n0 (nm_r (e' := nI 1) rfl (br_f n0 ⟨yg_in (k := 0) (by omega), nm_r (e' := upd b_wanted 0 (nI v)) ?_ (nm_r (e' := nI len) hc ⟨len + 1, ?_⟩)⟩))
  · rw [nv]; rfl
  · refine yg_46 (z := false) hl hk h100 len 0 [v] false (len + 1) _ (by omega) (by omega) ?_ ⟨pk_us, trivial⟩ (by simp) hN hS
    rcases hv with rfl | rfl <;> simp [sk_ok, sk_out]
