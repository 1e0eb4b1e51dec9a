/-! the class: draftIs -/
variable {f_nodeCount f_innermost f_draftLength f_rulesGiven f_wrongToken f_wantedCount f_inCondition f_depth f_cursor f_outcome f_outputCount f_stepsTaken : Int32} {a_names a_values a_parents a_kinds a_operands a_priorities a_givenAt a_wanted a_axes a_passing a_ends a_openers a_table a_results a_matched a_listLeft a_listNode a_listPosition a_listSize a_listBody a_listReturn a_outputs : Nat → Int32}
theorem sk_get {w : Nat → Int32} : ∀ {l : List Nat} {j : Nat}, sk w l → j < l.length → ∃ x, x ∈ l ∧ w j = nI x
  | [], j, _, h => absurd h (by simp)
  | a :: l, j, ⟨h1, h2⟩, h => by
    have h' : j < l.length + 1 := h
    rcases Nat.lt_or_ge j l.length with z | z
    · obtain ⟨x, hx, e⟩ := sk_get h2 z
      exact ⟨x, List.mem_cons.mpr (Or.inr hx), e⟩
    · have : j = l.length := by omega
      exact ⟨a, List.mem_cons.mpr (Or.inl rfl), by rw [this]; exact h1⟩
theorem sk_mem {w : Nat → Int32} {x : Nat} : ∀ {l : List Nat}, sk w l → x ∈ l → ∃ j, j < l.length ∧ w j = nI x
  | [], _, h => absurd h (by simp)
  | a :: l, ⟨h1, h2⟩, h => by
    rcases List.mem_cons.mp h with e | e
    · exact ⟨l.length, by simp, by rw [e]; exact h1⟩
    · obtain ⟨j, hj, e⟩ := sk_mem h2 e
      exact ⟨j, by simp; omega, e⟩
theorem sk_ph_mem (c x : Nat) : x ∈ sk_ph c → x ≤ 5 := by
  unfold sk_ph
  repeat' split
  all_goals (intro h; simp at h; omega)
theorem sk_fl_mem {b : List Nat} (hb : ∀ x, x ∈ b → x = 6) : ∀ s x, x ∈ sk_fl b s → x ≤ 6
  | [], x, h => by have := hb x h; omega
  | c :: s, x, h => by
    rw [sk_fl, List.mem_append] at h
    rcases h with h | h
    · have := sk_ph_mem c x h; omega
    · exact sk_fl_mem hb s x h
theorem sk_ph_ok : ∀ c, c ≤ 8 → ((∀ x, x ∈ sk_ph c → x = 2 ∨ x = 4 ∨ x = 6) ↔ (c = 0 ∨ c = 4 ∨ c = 7)) := by
  intro c hc
  rcases (show c = 0 ∨ c = 1 ∨ c = 2 ∨ c = 3 ∨ c = 4 ∨ c = 5 ∨ c = 6 ∨ c = 7 ∨ c = 8 by omega) with rfl | rfl | rfl | rfl | rfl | rfl | rfl | rfl | rfl <;> decide
theorem sk_fin {b : List Nat} (hb : ∀ x, x ∈ b → x = 6) : ∀ s, (∀ v, v ∈ s → v ≤ 8) → ((∀ x, x ∈ sk_fl b s → x = 2 ∨ x = 4 ∨ x = 6) ↔ ∀ v, v ∈ s → v = 0 ∨ v = 4 ∨ v = 7)
  | [], _ => ⟨fun _ v h => absurd h (by simp), fun _ x h => Or.inr (Or.inr (hb x h))⟩
  | c :: s, h8 => by
    have ih := sk_fin hb s (fun v hv => h8 v (List.mem_cons.mpr (Or.inr hv)))
    have hc := sk_ph_ok c (h8 c (List.mem_cons.mpr (Or.inl rfl)))
    constructor
    · intro h v hv
      rcases List.mem_cons.mp hv with e | e
      · rw [e]; exact hc.mp (fun x hx => h x (by rw [sk_fl, List.mem_append]; exact Or.inl hx))
      · exact ih.mp (fun x hx => h x (by rw [sk_fl, List.mem_append]; exact Or.inr hx)) v e
    · intro h x hx
      rw [sk_fl, List.mem_append] at hx
      rcases hx with hx | hx
      · exact hc.mpr (h c (List.mem_cons.mpr (Or.inl rfl))) x hx
      · exact ih.mpr (fun v hv => h v (List.mem_cons.mpr (Or.inr hv))) x hx
theorem sk_out8 {z : Bool} : ∀ s, sk_out z s → ∀ v, v ∈ s → v ≤ 8
  | [], _, v, h => absurd h (by simp)
  | a :: s, hs, v, h => by
    rcases hs with ⟨h0, h1, _⟩ | ⟨h1, h2, hs⟩
    · rw [h0, h1] at h
      have : v = 0 := by simpa using h
      omega
    · rcases List.mem_cons.mp h with e | e
      · omega
      · exact sk_out8 s hs v e
theorem sk_in8 {z : Bool} : ∀ s, sk_in z s → ∀ v, v ∈ s → v ≤ 8
  | [], hs, v, h => absurd hs id
  | a :: s, hs, v, h => by
    rcases hs with ⟨h0, h1⟩ | ⟨h1, h2, hs⟩
    · rcases List.mem_cons.mp h with e | e
      · omega
      · exact sk_out8 s h1 v e
    · rcases List.mem_cons.mp h with e | e
      · omega
      · exact sk_in8 s hs v e
theorem sk_ok8 {z c : Bool} {s : List Nat} (h : sk_ok z c s) : ∀ v, v ∈ s → v ≤ 8 := by
  cases c
  · exact sk_out8 s h
  · exact sk_in8 s h
theorem xg_may {post : Int32 → Prop} {v : Nat} (hv : v < 100) (h1 : (v = 2 ∨ v = 4 ∨ v = 6) → post 1) (h0 : ¬ (v = 2 ∨ v = 4 ∨ v = 6) → post 0) : wpX_mayStayOut post (f_nodeCount, f_innermost, f_draftLength, f_rulesGiven, f_wrongToken, f_wantedCount, f_inCondition, f_depth, f_cursor, f_outcome, f_outputCount, f_stepsTaken, a_names, a_values, a_parents, a_kinds, a_operands, a_priorities, a_givenAt, a_wanted, a_axes, a_passing, a_ends, a_openers, a_table, a_results, a_matched, a_listLeft, a_listNode, a_listPosition, a_listSize, a_listBody, a_listReturn, a_outputs) (nI v) :=
  pk_eq v 2 (fun z => h1 (Or.inl z)) (fun a => pk_eq v 4 (fun z => h1 (Or.inr (Or.inl z))) (fun b => pk_eq v 6 (fun z => h1 (Or.inr (Or.inr z))) (fun c => h0 (fun z => z.elim a (fun z => z.elim b c)))))
theorem xg_62 {post : Int32 → SX → Prop} {l : List Nat} {len : Nat} (hl : l.length < 128) (h6 : ∀ x, x ∈ l → x ≤ 6) (hw : sk a_wanted l) (h1 : (∀ x, x ∈ l → x = 2 ∨ x = 4 ∨ x = 6) → post 1 (f_nodeCount, f_innermost, nI len, f_rulesGiven, f_wrongToken, nI l.length, f_inCondition, f_depth, f_cursor, f_outcome, f_outputCount, f_stepsTaken, a_names, a_values, a_parents, a_kinds, a_operands, a_priorities, a_givenAt, a_wanted, a_axes, a_passing, a_ends, a_openers, a_table, a_results, a_matched, a_listLeft, a_listNode, a_listPosition, a_listSize, a_listBody, a_listReturn, a_outputs)) (h0 : ¬ (∀ x, x ∈ l → x = 2 ∨ x = 4 ∨ x = 6) → post 0 (f_nodeCount, f_innermost, nI len, f_rulesGiven, nI len, nI l.length, f_inCondition, f_depth, f_cursor, f_outcome, f_outputCount, f_stepsTaken, a_names, a_values, a_parents, a_kinds, a_operands, a_priorities, a_givenAt, a_wanted, a_axes, a_passing, a_ends, a_openers, a_table, a_results, a_matched, a_listLeft, a_listNode, a_listPosition, a_listSize, a_listBody, a_listReturn, a_outputs)) :
    ∀ d j f, j + d = l.length → d < f → (∀ i, i < j → ∀ x, a_wanted i = nI x → x ≤ 6 → x = 2 ∨ x = 4 ∨ x = 6) → wX_draftIs_62 post f_nodeCount f_innermost (nI len) f_rulesGiven f_wrongToken (nI l.length) f_inCondition f_depth f_cursor f_outcome f_outputCount f_stepsTaken a_names a_values a_parents a_kinds a_operands a_priorities a_givenAt a_wanted a_axes a_passing a_ends a_openers a_table a_results a_matched a_listLeft a_listNode a_listPosition a_listSize a_listBody a_listReturn a_outputs f (nI j) := by
  intro d
  induction d with
  | zero =>
    intro j f hj hf h
    obtain ⟨f, rfl⟩ : ∃ x, f = x + 1 := ⟨f - 1, by omega⟩
    refine br_t (nI_le (by omega) (by omega)) (h1 fun x hx => ?_)
    obtain ⟨i, hi, e⟩ := sk_mem hw hx
    exact h i (by omega) x e (h6 x hx)
  | succ d ih =>
    intro j f hj hf h
    obtain ⟨f, rfl⟩ : ∃ x, f = x + 1 := ⟨f - 1, by omega⟩
    obtain ⟨x, hx, e⟩ := sk_get hw (show j < l.length by omega)
    have x6 := h6 x hx
    refine br_f (nI_ge (by omega) (by omega)) ⟨vp_in_nI (by omega) (by omega), ?_⟩
    rw [nI_clamp (by omega), e]
    refine xg_may (by omega) (fun g => br_f (by decide) (nm_r (nI_1 j) (ih (j + 1) f (by omega) (by omega) fun i hi y ey y6 => ?_))) (fun g => br_t rfl (h0 fun q => g (q x hx)))
    rcases Nat.lt_or_ge i j with z | z
    · exact h i z y ey y6
    · have : i = j := by omega
      rw [this, e] at ey
      have := (nI_eq (by omega) (by omega)).mp ey
      rw [← this]; exact g
theorem xg_22 {post : Int32 → SX → Prop} {K : Nat → Nat} {len : Nat} {z : Bool} {b : List Nat} (hb : (z = true ∧ b = []) ∨ (z = false ∧ b = [6])) (hl : len ≤ 30) (hk : xs_k a_kinds 192 K) (h100 : ∀ i, i < len → K i < 100) :
    ∀ d i s c f w, i + d = len → d < f → sk_ok z c s → sk w (sk_fl b s) → s.length ≤ 2 + 2 * i →
      (gm_run K d i s = none → ∀ (wc ic : Int32) (w' : Nat → Int32), post 1 (f_nodeCount, f_innermost, nI len, f_rulesGiven, f_wrongToken, wc, ic, f_depth, f_cursor, f_outcome, f_outputCount, f_stepsTaken, a_names, a_values, a_parents, a_kinds, a_operands, a_priorities, a_givenAt, w', a_axes, a_passing, a_ends, a_openers, a_table, a_results, a_matched, a_listLeft, a_listNode, a_listPosition, a_listSize, a_listBody, a_listReturn, a_outputs)) →
      (∀ p, gm_run K d i s = some p → ∀ (wc ic : Int32) (w' : Nat → Int32), post 0 (f_nodeCount, f_innermost, nI len, f_rulesGiven, nI p, wc, ic, f_depth, f_cursor, f_outcome, f_outputCount, f_stepsTaken, a_names, a_values, a_parents, a_kinds, a_operands, a_priorities, a_givenAt, w', a_axes, a_passing, a_ends, a_openers, a_table, a_results, a_matched, a_listLeft, a_listNode, a_listPosition, a_listSize, a_listBody, a_listReturn, a_outputs)) →
      wX_draftIs_22 post f (nI i) f_nodeCount f_innermost (nI len) f_rulesGiven f_wrongToken (nI (sk_fl b s).length) (ys_b c) f_depth f_cursor f_outcome f_outputCount f_stepsTaken a_names a_values a_parents a_kinds a_operands a_priorities a_givenAt w a_axes a_passing a_ends a_openers a_table a_results a_matched a_listLeft a_listNode a_listPosition a_listSize a_listBody a_listReturn a_outputs := by
  have hb1 : b.length ≤ 1 := by
    rcases hb with ⟨_, e⟩ | ⟨_, e⟩ <;> rw [e] <;> decide
  have hb6 : ∀ x, x ∈ b → x = 6 := by
    rcases hb with ⟨_, e⟩ | ⟨_, e⟩ <;> rw [e] <;> simp
  intro d
  induction d with
  | zero =>
    intro i s c f w hi hf hok hw hs hN hS
    obtain ⟨f, rfl⟩ : ∃ x, f = x + 1 := ⟨f - 1, by omega⟩
    have fl := sk_fll b s
    have e : i = len := by omega
    subst e
    have fin := sk_fin hb6 s (sk_ok8 hok)
    rw [gm_run] at hN hS
    refine br_t (nI_le (Nat.le_refl _) (by omega)) ⟨(sk_fl b s).length + 1, xg_62 (by omega) (sk_fl_mem hb6 s) hw (fun q => hN (if_pos (fin.mp q)) _ _ _) (fun q => hS i (if_neg (fun y => q (fin.mpr y))) _ _ _) _ 0 _ (Nat.zero_add _) (by omega) (fun i hi => absurd hi (by omega))⟩
  | succ d ih =>
    intro i s c f w hi hf hok hw hs hN hS
    obtain ⟨f, rfl⟩ : ∃ x, f = x + 1 := ⟨f - 1, by omega⟩
    have fl := sk_fll b s
    have e192 : (192 : Int32) + nI i = nI (192 + i) := nI_add 192 i
    rw [gm_run] at hN hS
    refine br_f (nI_ge (by omega) (by omega)) ⟨by rw [e192]; exact vp_in_nI (by omega) (by omega), ?_⟩
    rw [e192, nI_clamp (by omega), hk i (by omega)]
    refine ⟨(sk_fl b s).length + 1, xg_takes_l (h100 i (by omega)) hb s c 0 _ w hok hw (by omega) (by omega) (by omega) (fun q wc ic w' => br_t rfl ?_) (fun s' q c' w' hok' hw' => br_f (by decide) (nm_r (nI_1 i) ?_))⟩
    · rw [q] at hS
      exact hS i rfl wc ic w'
    · rw [q] at hN hS
      obtain ⟨c2, _, hlen⟩ := sk_st hok q
      exact ih (i + 1) s' c' f w' (by omega) (by omega) hok' hw' (by omega) hN hS
theorem xg_draftIs {post : Int32 → SX → Prop} {K : Nat → Nat} {len p0 p1 : Nat} {z : Bool} {b s : List Nat} (hb : (z = true ∧ b = []) ∨ (z = false ∧ b = [6])) (hl : len ≤ 30) (hk : xs_k a_kinds 192 K) (h100 : ∀ i, i < len → K i < 100) (hok : sk_ok z false s) (hs : s.length ≤ 2) (hfl : sk_fl b s = [p0, p1])
    (hN : gm_run K len 0 s = none → ∀ (wc ic : Int32) (w' : Nat → Int32), post 1 (f_nodeCount, f_innermost, nI len, f_rulesGiven, f_wrongToken, wc, ic, f_depth, f_cursor, f_outcome, f_outputCount, f_stepsTaken, a_names, a_values, a_parents, a_kinds, a_operands, a_priorities, a_givenAt, w', a_axes, a_passing, a_ends, a_openers, a_table, a_results, a_matched, a_listLeft, a_listNode, a_listPosition, a_listSize, a_listBody, a_listReturn, a_outputs))
    (hS : ∀ p, gm_run K len 0 s = some p → ∀ (wc ic : Int32) (w' : Nat → Int32), post 0 (f_nodeCount, f_innermost, nI len, f_rulesGiven, nI p, wc, ic, f_depth, f_cursor, f_outcome, f_outputCount, f_stepsTaken, a_names, a_values, a_parents, a_kinds, a_operands, a_priorities, a_givenAt, w', a_axes, a_passing, a_ends, a_openers, a_table, a_results, a_matched, a_listLeft, a_listNode, a_listPosition, a_listSize, a_listBody, a_listReturn, a_outputs)) :
    wpX_draftIs post (f_nodeCount, f_innermost, nI len, f_rulesGiven, f_wrongToken, f_wantedCount, f_inCondition, f_depth, f_cursor, f_outcome, f_outputCount, f_stepsTaken, a_names, a_values, a_parents, a_kinds, a_operands, a_priorities, a_givenAt, a_wanted, a_axes, a_passing, a_ends, a_openers, a_table, a_results, a_matched, a_listLeft, a_listNode, a_listPosition, a_listSize, a_listBody, a_listReturn, a_outputs) (nI p0) (nI p1) := by
  unfold wpX_draftIs
  refine xg_wl (l := []) (v := p1) (by decide) trivial fun w1 h1 => ?_
  refine xg_wl (l := [p1]) (v := p0) (by simp) h1 fun w2 h2 => ?_
  refine ⟨len + 1, ?_⟩
  have := xg_22 (post := post) (f_nodeCount := f_nodeCount) (f_innermost := f_innermost) (f_rulesGiven := f_rulesGiven) (f_wrongToken := f_wrongToken) (f_depth := f_depth) (f_cursor := f_cursor) (f_outcome := f_outcome) (f_outputCount := f_outputCount) (f_stepsTaken := f_stepsTaken) hb hl hk h100 len 0 s false (len + 1) w2 (by omega) (by omega) hok (by rw [hfl]; exact h2) (by omega) hN hS
  rw [hfl] at this
  exact this
