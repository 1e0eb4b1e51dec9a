/-! the class: the axes of all nodes -/
variable {f_nodeCount f_innermost f_draftLength f_rulesGiven f_wrongToken f_wantedCount f_inCondition f_depth f_cursor f_outcome f_outputCount f_stepsTaken : Int32} {a_names a_values a_parents a_kinds a_operands a_priorities a_givenAt a_wanted a_axes a_passing a_ends a_openers a_table a_results a_matched a_listLeft a_listNode a_listPosition a_listSize a_listBody a_listReturn a_outputs : Nat → Int32}
theorem xr_ix {c i : Nat} : nI c + nI i = nI (c + i) := nI_add c i
theorem xr_lt1 : ∀ a, a < 32 → ∀ m, m < 32 → bt (((1 : Int32) <<< (nI a &&& 31)) - 1) m = decide (m < a) := by decide +kernel
theorem xr_up {post : SX → Prop} {n i : Nat} (T : tr_T a_parents n) (hi : i < n) (h4 : ∀ a, a < i → ∀ m, m < 32 → bt (a_axes (96 + a)) m = tr_a a_parents m a)
    (hp : ∀ A : Nat → Int32, (∀ y, y ≠ 48 + i → y ≠ 96 + i → A y = a_axes y) → (∀ m, m < 32 → bt (A (48 + i)) m = decide (a_parents i = nI m)) → (∀ m, m < 32 → bt (A (96 + i)) m = tr_a a_parents m i) → post (f_nodeCount, f_innermost, f_draftLength, f_rulesGiven, f_wrongToken, f_wantedCount, f_inCondition, f_depth, f_cursor, f_outcome, f_outputCount, f_stepsTaken, a_names, a_values, a_parents, a_kinds, a_operands, a_priorities, a_givenAt, a_wanted, A, a_passing, a_ends, a_openers, a_table, a_results, a_matched, a_listLeft, a_listNode, a_listPosition, a_listSize, a_listBody, a_listReturn, a_outputs)) : wpX_relateUpwards post (f_nodeCount, f_innermost, f_draftLength, f_rulesGiven, f_wrongToken, f_wantedCount, f_inCondition, f_depth, f_cursor, f_outcome, f_outputCount, f_stepsTaken, a_names, a_values, a_parents, a_kinds, a_operands, a_priorities, a_givenAt, a_wanted, a_axes, a_passing, a_ends, a_openers, a_table, a_results, a_matched, a_listLeft, a_listNode, a_listPosition, a_listSize, a_listBody, a_listReturn, a_outputs) (nI i) := by
  have hn := T.1
  have e48 : (48 : Int32) + nI i = nI (48 + i) := nI_add 48 i
  have e96 : (96 : Int32) + nI i = nI (96 + i) := nI_add 96 i
  refine ⟨vp_in_nI (by omega) (by omega), nm_r (e' := a_parents i) (by rw [nI_clamp (by omega)]) ?_⟩
  by_cases h : a_parents i < 0
  · have h0 : ¬ 0 ≤ a_parents i := Int32.not_le.mpr h
    refine br_f h0 ⟨by rw [e48]; exact vp_in_nI (by omega) (by omega), nm_r (e' := upd a_axes (48 + i) 0) (by rw [e48, nI_clamp (by omega)]) (br_f h0 ⟨by rw [e96]; exact vp_in_nI (by omega) (by omega), nm_r (e' := upd (upd a_axes (48 + i) 0) (96 + i) 0) (by rw [e96, nI_clamp (by omega)]) (hp _ (fun y y1 y2 => ?_) (fun m hm => ?_) (fun m hm => ?_))⟩)⟩
    · rw [pk_un y2, pk_un y1]
    · rw [pk_un (by omega), pk_us, b_0, decide_eq_false]
      intro z
      rw [z] at h
      exact nI_pos (by omega) h
    · rw [pk_us, b_0, tr_a0 h]
  · obtain ⟨p, hpi, e⟩ := tr_par T hi h
    have h0 : 0 ≤ a_parents i := Int32.not_lt.mp h
    have e96p : (96 : Int32) + a_parents i = nI (96 + p) := by rw [e]; exact nI_add 96 p
    have ez : (1 : Int32) <<< (a_parents i &&& 31) = (1 : Int32) <<< (nI p &&& 31) := by rw [e]
    refine br_t h0 ⟨by rw [e48]; exact vp_in_nI (by omega) (by omega), nm_r (e' := upd a_axes (48 + i) ((1 : Int32) <<< (nI p &&& 31))) (by rw [e48, nI_clamp (by omega), ez]) (br_t h0 ⟨by rw [e96p]; exact vp_in_nI (by omega) (by omega), by rw [e96]; exact vp_in_nI (by omega) (by omega), nm_r (e' := upd (upd a_axes (48 + i) ((1 : Int32) <<< (nI p &&& 31))) (96 + i) (((1 : Int32) <<< (nI p &&& 31)) ||| a_axes (96 + p))) (by rw [e96, e96p, nI_clamp (by omega), nI_clamp (by omega), ez, pk_un (j := 96 + p) (by omega)]) (hp _ (fun y y1 y2 => ?_) (fun m hm => ?_) (fun m hm => ?_))⟩)⟩
    · rw [pk_un y2, pk_un y1]
    · rw [pk_un (by omega), pk_us, ms_1 p (by omega) m hm, e]
      by_cases z : m = p
      · rw [decide_eq_true z, z, decide_eq_true rfl]
      · rw [decide_eq_false z, decide_eq_false]
        intro y
        exact z ((nI_eq (by omega) (by omega)).mp y).symm
    · rw [pk_us, b_or, ms_1 p (by omega) m hm, h4 p hpi m hm, tr_as T hi hpi e]
      by_cases z : m = p
      · rw [decide_eq_true z, decide_eq_true z.symm]
      · rw [decide_eq_false z, decide_eq_false (fun y => z y.symm)]
/-- after the first loop has done the nodes below i -/
def xr_1 (A P : Nat → Int32) (i : Nat) : Prop := ∀ a, a < i → ∀ m, m < 32 → bt (A a) m = decide (m = a) ∧ A (24 + a) = 0 ∧ A (72 + a) = 0 ∧ bt (A (48 + a)) m = decide (P a = nI m) ∧ bt (A (96 + a)) m = tr_a P m a
def xr_p (Q N : Nat → Int32) (i : Nat) : Prop := ∀ t, t < 7 → ∀ m, m < 32 → bt (Q t) m = (decide (m < i) && (decide (t = 6) || decide (N m = nI t)))
/-- of the second loop, the nodes from k on done -/
def xr_2 (A P : Nat → Int32) (n k : Nat) : Prop := ∀ a, a < n → ∀ m, m < 32 → bt (A a) m = decide (m = a) ∧ bt (A (48 + a)) m = decide (P a = nI m) ∧ bt (A (96 + a)) m = tr_a P m a ∧
  (bt (A (24 + a)) m = true ↔ k ≤ m ∧ m < n ∧ P m = nI a) ∧ (bt (A (72 + a)) m = true ↔ m < n ∧ ∃ c, k ≤ c ∧ c < n ∧ P c = nI a ∧ (m = c ∨ tr_a P c m = true))
theorem xr_down {post : SX → Prop} {n i : Nat} (T : tr_T a_parents n) (hi : i < n) (h2 : xr_2 a_axes a_parents n (i + 1)) (hp : ∀ A : Nat → Int32, xr_2 A a_parents n i → post (f_nodeCount, f_innermost, f_draftLength, f_rulesGiven, f_wrongToken, f_wantedCount, f_inCondition, f_depth, f_cursor, f_outcome, f_outputCount, f_stepsTaken, a_names, a_values, a_parents, a_kinds, a_operands, a_priorities, a_givenAt, a_wanted, A, a_passing, a_ends, a_openers, a_table, a_results, a_matched, a_listLeft, a_listNode, a_listPosition, a_listSize, a_listBody, a_listReturn, a_outputs)) : wpX_relateDownwards post (f_nodeCount, f_innermost, f_draftLength, f_rulesGiven, f_wrongToken, f_wantedCount, f_inCondition, f_depth, f_cursor, f_outcome, f_outputCount, f_stepsTaken, a_names, a_values, a_parents, a_kinds, a_operands, a_priorities, a_givenAt, a_wanted, a_axes, a_passing, a_ends, a_openers, a_table, a_results, a_matched, a_listLeft, a_listNode, a_listPosition, a_listSize, a_listBody, a_listReturn, a_outputs) (nI i) := by
  have hn := T.1
  refine ⟨vp_in_nI (by omega) (by omega), nm_r (e' := a_parents i) (by rw [nI_clamp (by omega)]) ?_⟩
  by_cases h : a_parents i < 0
  · refine br_t h (hp a_axes fun a ha m hm => ?_)
    obtain ⟨q1, q2, q3, q4, q5⟩ := h2 a ha m hm
    have ne : a_parents i ≠ nI a := fun z => nI_pos (n := a) (by omega) (z ▸ h)
    refine ⟨q1, q2, q3, q4.trans ⟨fun ⟨x, y⟩ => ⟨by omega, y⟩, fun ⟨x, y, z⟩ => ⟨?_, y, z⟩⟩, q5.trans ⟨fun ⟨x, c, y, z⟩ => ⟨x, c, by omega, z⟩, fun ⟨x, c, y, z1, z2, z3⟩ => ⟨x, c, ?_, z1, z2, z3⟩⟩⟩
    · rcases Nat.eq_or_lt_of_le x with w | w
      · rw [← w] at z; exact absurd z ne
      · exact w
    · rcases Nat.eq_or_lt_of_le y with w | w
      · rw [← w] at z2; exact absurd z2 ne
      · exact w
  · obtain ⟨p, hpi, e⟩ := tr_par T hi h
    have e24 : (24 : Int32) + a_parents i = nI (24 + p) := by rw [e]; exact nI_add 24 p
    have e72 : (72 : Int32) + a_parents i = nI (72 + p) := by rw [e]; exact nI_add 72 p
    have e72i : (72 : Int32) + nI i = nI (72 + i) := nI_add 72 i
    refine br_f h ⟨by rw [e24]; exact vp_in_nI (by omega) (by omega), by rw [e24]; exact vp_in_nI (by omega) (by omega), nm_r (e' := upd a_axes (24 + p) (a_axes (24 + p) ||| ((1 : Int32) <<< (nI i &&& 31)))) (by rw [e24, nI_clamp (by omega)]) ⟨by rw [e72]; exact vp_in_nI (by omega) (by omega), by rw [e72i]; exact vp_in_nI (by omega) (by omega), by rw [e72]; exact vp_in_nI (by omega) (by omega),
      nm_r (e' := upd (upd a_axes (24 + p) (a_axes (24 + p) ||| ((1 : Int32) <<< (nI i &&& 31)))) (72 + p) (a_axes (72 + p) ||| (((1 : Int32) <<< (nI i &&& 31)) ||| a_axes (72 + i)))) (by rw [e72, e72i, nI_clamp (by omega), nI_clamp (by omega), pk_un (j := 72 + p) (by omega), pk_un (j := 72 + i) (by omega)]) (hp _ fun a ha m hm => ?_)⟩⟩
    obtain ⟨q1, q2, q3, q4, q5⟩ := h2 a ha m hm
    obtain ⟨_, _, _, _, w5⟩ := h2 i hi m hm
    obtain ⟨_, _, _, v4, v5⟩ := h2 p (by omega) m hm
    refine ⟨by rw [pk_un (by omega), pk_un (by omega)]; exact q1, by rw [pk_un (by omega), pk_un (by omega)]; exact q2, by rw [pk_un (by omega), pk_un (by omega)]; exact q3, ?_, ?_⟩
    · rw [pk_un (by omega)]
      by_cases z : a = p
      · subst z
        rw [pk_us, ms_set _ (by omega) hm, Bool.or_eq_true, decide_eq_true_eq, q4]
        constructor
        · rintro (⟨x, y⟩ | x)
          · exact ⟨by omega, y⟩
          · rw [x]; exact ⟨Nat.le_refl _, hi, e⟩
        · rintro ⟨x, y, z⟩
          rcases Nat.eq_or_lt_of_le x with w | w
          · exact Or.inr w.symm
          · exact Or.inl ⟨w, y, z⟩
      · rw [pk_un (by omega), q4]
        refine ⟨fun ⟨x, y⟩ => ⟨by omega, y⟩, fun ⟨x, y, w⟩ => ⟨?_, y, w⟩⟩
        rcases Nat.eq_or_lt_of_le x with v | v
        · rw [← v, e] at w
          exact absurd ((nI_eq (by omega) (by omega)).mp w).symm z
        · exact v
    · by_cases z : a = p
      · subst z
        rw [pk_us, b_or, b_or, Bool.or_eq_true, Bool.or_eq_true, ms_1 i (by omega) m hm, decide_eq_true_eq, q5, w5]
        constructor
        · rintro (⟨x, c, y, w⟩ | x | ⟨x, c, y1, y2, y3, y4⟩)
          · exact ⟨x, c, by omega, w⟩
          · rw [x]; exact ⟨hi, i, Nat.le_refl _, hi, e, Or.inl rfl⟩
          · exact ⟨x, i, Nat.le_refl _, hi, e, Or.inr (tr_tr T y2 (by omega) y3 m x y4)⟩
        · rintro ⟨x, c, y1, y2, y3, y4⟩
          rcases Nat.eq_or_lt_of_le y1 with w | w
          · subst w
            rcases y4 with y4 | y4
            · exact Or.inr (Or.inl y4)
            · obtain ⟨c, c1, c2, c3⟩ := tr_top T m x y4
              refine Or.inr (Or.inr ⟨x, c, ?_, c1, c2, c3⟩)
              have : i < c := by
                rcases T.2 c c1 with ⟨_, g⟩ | ⟨_, p', hp', g⟩
                · rw [g] at c2
                  exact absurd (c2 ▸ tr_m1) (nI_pos (by omega))
                · rw [g] at c2
                  have := (nI_eq (by omega) (by omega)).mp c2
                  omega
              exact this
          · exact Or.inl ⟨x, c, w, y2, y3, y4⟩
      · rw [pk_un (by omega), pk_un (by omega), q5]
        refine ⟨fun ⟨x, c, y, w⟩ => ⟨x, c, by omega, w⟩, fun ⟨x, c, y, w1, w2, w3⟩ => ⟨x, c, ?_, w1, w2, w3⟩⟩
        rcases Nat.eq_or_lt_of_le y with v | v
        · rw [← v, e] at w2
          exact absurd ((nI_eq (by omega) (by omega)).mp w2).symm z
        · exact v
