/-! the class: relateNodes and tabulate -/
variable {f_nodeCount f_innermost f_draftLength f_rulesGiven f_wrongToken f_wantedCount f_inCondition f_depth f_cursor f_outcome f_outputCount f_stepsTaken : Int32} {a_names a_values a_parents a_kinds a_operands a_priorities a_givenAt a_wanted a_axes a_passing a_ends a_openers a_table a_results a_matched a_listLeft a_listNode a_listPosition a_listSize a_listBody a_listReturn a_outputs : Nat → Int32}
theorem xr_l108 {post : SX → Prop} {n : Nat} (T : tr_T a_parents n) (hp : ∀ A : Nat → Int32, xr_2 A a_parents n 0 → ∃ k, wX_relateNodes_125 post k 0 (nI n) f_innermost f_draftLength f_rulesGiven f_wrongToken f_wantedCount f_inCondition f_depth f_cursor f_outcome f_outputCount f_stepsTaken a_names a_values a_parents a_kinds a_operands a_priorities a_givenAt a_wanted A a_passing a_ends a_openers a_table a_results a_matched a_listLeft a_listNode a_listPosition a_listSize a_listBody a_listReturn a_outputs) :
    ∀ k f A, k ≤ n → k < f → xr_2 A a_parents n k → wX_relateNodes_108 post f (nI k - 1) (nI n) f_innermost f_draftLength f_rulesGiven f_wrongToken f_wantedCount f_inCondition f_depth f_cursor f_outcome f_outputCount f_stepsTaken a_names a_values a_parents a_kinds a_operands a_priorities a_givenAt a_wanted A a_passing a_ends a_openers a_table a_results a_matched a_listLeft a_listNode a_listPosition a_listSize a_listBody a_listReturn a_outputs := by
  have hn := T.1
  intro k
  induction k with
  | zero =>
    intro f A _ hf h2
    obtain ⟨f, rfl⟩ : ∃ x, f = x + 1 := ⟨f - 1, by omega⟩
    exact br_t (by decide) (hp A h2)
  | succ k ih =>
    intro f A hk hf h2
    obtain ⟨f, rfl⟩ : ∃ x, f = x + 1 := ⟨f - 1, by omega⟩
    rw [nI_pred]
    exact br_f (nI_pos (by omega)) (xr_down (a_axes := A) T (by omega) h2 fun B h => nm_r (xw_m1 k) (ih f B (by omega) (by omega) h))
theorem xr_l23 {post : SX → Prop} {n : Nat} (T : tr_T a_parents n) (hN : ∀ i, i < n → ∃ t, t < 6 ∧ a_names i = nI t) (hp : ∀ A Q : Nat → Int32, xr_1 A a_parents n → xr_p Q a_names n → ∃ k, wX_relateNodes_108 post k (nI n - 1) (nI n) f_innermost f_draftLength f_rulesGiven f_wrongToken f_wantedCount f_inCondition f_depth f_cursor f_outcome f_outputCount f_stepsTaken a_names a_values a_parents a_kinds a_operands a_priorities a_givenAt a_wanted A Q a_ends a_openers a_table a_results a_matched a_listLeft a_listNode a_listPosition a_listSize a_listBody a_listReturn a_outputs) :
    ∀ d i f A Q, i + d = n → d < f → xr_1 A a_parents i → xr_p Q a_names i → wX_relateNodes_23 post f (nI i) (nI n) f_innermost f_draftLength f_rulesGiven f_wrongToken f_wantedCount f_inCondition f_depth f_cursor f_outcome f_outputCount f_stepsTaken a_names a_values a_parents a_kinds a_operands a_priorities a_givenAt a_wanted A Q a_ends a_openers a_table a_results a_matched a_listLeft a_listNode a_listPosition a_listSize a_listBody a_listReturn a_outputs := by
  have hn := T.1
  intro d
  induction d with
  | zero =>
    intro i f A Q hi hf h1 h2
    obtain ⟨f, rfl⟩ : ∃ x, f = x + 1 := ⟨f - 1, by omega⟩
    have e : i = n := by omega
    subst e
    exact br_t (nI_le (Nat.le_refl _) (by omega)) (nm_e (hp A Q h1 h2))
  | succ d ih =>
    intro i f A Q hi hf h1 h2
    obtain ⟨f, rfl⟩ : ∃ x, f = x + 1 := ⟨f - 1, by omega⟩
    obtain ⟨t, ht, et⟩ := hN i (by omega)
    have e0 : (0 : Int32) + nI i = nI i := Int32.zero_add _
    have e24 : (24 : Int32) + nI i = nI (24 + i) := nI_add 24 i
    have e72 : (72 : Int32) + nI i = nI (72 + i) := nI_add 72 i
    have ea : a_names (nI i).toNatClampNeg = nI t := by rw [nI_clamp (by omega)]; exact et
    have it : vp_in (a_names (nI i).toNatClampNeg) 7 := by rw [ea]; exact vp_in_nI (by omega) (by omega)
    refine br_f (nI_ge (by omega) (by omega)) (nm_e ⟨vp_in_nI (by omega) (by omega), it, it, nm_r (e' := upd Q t (Q t ||| ((1 : Int32) <<< (nI i &&& 31)))) (by rw [ea, nI_clamp (by omega)]) (nm_r (e' := upd (upd Q t (Q t ||| ((1 : Int32) <<< (nI i &&& 31)))) 6 (Q 6 ||| ((1 : Int32) <<< (nI i &&& 31)))) (by rw [pk_un (j := 6) (by omega)]) ⟨by rw [e0]; exact vp_in_nI (by omega) (by omega), nm_r (e' := upd A i ((1 : Int32) <<< (nI i &&& 31))) (by rw [e0, nI_clamp (by omega)]) ⟨by rw [e24]; exact vp_in_nI (by omega) (by omega), nm_r (e' := upd (upd A i ((1 : Int32) <<< (nI i &&& 31))) (24 + i) 0) (by rw [e24, nI_clamp (by omega)]) ⟨by rw [e72]; exact vp_in_nI (by omega) (by omega), nm_r (e' := upd (upd (upd A i ((1 : Int32) <<< (nI i &&& 31))) (24 + i) 0) (72 + i) 0) (by rw [e72, nI_clamp (by omega)]) ?_⟩⟩⟩)⟩)
    refine xr_up T (by omega) (fun a ha m hm => ?_) fun B fr b2 b4 => nm_r (nI_1 i) (ih (i + 1) f B _ (by omega) (by omega) ?_ ?_)
    · rw [pk_un (by omega), pk_un (by omega), pk_un (by omega)]
      exact (h1 a ha m hm).2.2.2.2
    · intro a ha m hm
      rcases Nat.lt_or_ge a i with z | z
      · rw [fr a (by omega) (by omega), fr (24 + a) (by omega) (by omega), fr (72 + a) (by omega) (by omega), fr (48 + a) (by omega) (by omega), fr (96 + a) (by omega) (by omega),
          pk_un (j := a) (by omega), pk_un (j := a) (by omega), pk_un (j := a) (by omega), pk_un (j := 24 + a) (by omega), pk_un (j := 24 + a) (by omega), pk_un (j := 24 + a) (by omega), pk_un (j := 72 + a) (by omega), pk_un (j := 72 + a) (by omega), pk_un (j := 72 + a) (by omega), pk_un (j := 48 + a) (by omega), pk_un (j := 48 + a) (by omega), pk_un (j := 48 + a) (by omega), pk_un (j := 96 + a) (by omega), pk_un (j := 96 + a) (by omega), pk_un (j := 96 + a) (by omega)]
        exact h1 a z m hm
      · have : a = i := by omega
        subst this
        rw [fr a (by omega) (by omega), fr (24 + a) (by omega) (by omega), fr (72 + a) (by omega) (by omega), pk_un (j := a) (by omega), pk_un (j := a) (by omega), pk_us, pk_un (j := 24 + a) (by omega), pk_us, pk_us]
        exact ⟨ms_1 a (by omega) m hm, rfl, rfl, b2 m hm, b4 m hm⟩
    · intro s hs m hm
      have q6 := h2 6 (by omega) m hm
      by_cases z6 : s = 6
      · subst z6
        rw [pk_us, ms_set _ (by omega) hm, q6]
        simp only [decide_true, Bool.true_or, Bool.and_true]
        by_cases zi : m = i
        · rw [decide_eq_true zi, decide_eq_true (show m < i + 1 by omega), Bool.or_true]
        · rw [decide_eq_false zi, Bool.or_false]
          by_cases zl : m < i
          · rw [decide_eq_true zl, decide_eq_true (show m < i + 1 by omega)]
          · rw [decide_eq_false zl, decide_eq_false (show ¬ m < i + 1 by omega)]
      · rw [pk_un z6, decide_eq_false z6, Bool.false_or]
        have qs := h2 s hs m hm
        rw [decide_eq_false z6, Bool.false_or] at qs
        by_cases zt : s = t
        · subst zt
          rw [pk_us, ms_set _ (by omega) hm, qs]
          by_cases zi : m = i
          · rw [zi, et, decide_eq_true rfl, decide_eq_true rfl, decide_eq_true (show i < i + 1 by omega), Bool.or_true, Bool.true_and]
          · rw [decide_eq_false zi, Bool.or_false]
            by_cases zl : m < i
            · rw [decide_eq_true zl, decide_eq_true (show m < i + 1 by omega)]
            · rw [decide_eq_false zl, decide_eq_false (show ¬ m < i + 1 by omega)]
        · rw [pk_un zt, qs]
          by_cases zi : m = i
          · rw [zi, et, decide_eq_false (fun y => zt ((nI_eq (by omega) (by omega)).mp y).symm), Bool.and_false, Bool.and_false]
          · by_cases zl : m < i
            · rw [decide_eq_true zl, decide_eq_true (show m < i + 1 by omega)]
            · rw [decide_eq_false zl, decide_eq_false (show ¬ m < i + 1 by omega)]
theorem xr_l2 {post : SX → Prop} (hp : ∀ Q : Nat → Int32, (∀ t, t < 7 → Q t = 0) → ∃ k, wX_relateNodes_23 post k 0 f_nodeCount f_innermost f_draftLength f_rulesGiven f_wrongToken f_wantedCount f_inCondition f_depth f_cursor f_outcome f_outputCount f_stepsTaken a_names a_values a_parents a_kinds a_operands a_priorities a_givenAt a_wanted a_axes Q a_ends a_openers a_table a_results a_matched a_listLeft a_listNode a_listPosition a_listSize a_listBody a_listReturn a_outputs) :
    ∀ d i f Q, i + d = 7 → d < f → (∀ t, t < i → Q t = 0) → wX_relateNodes_2 post f_nodeCount f_innermost f_draftLength f_rulesGiven f_wrongToken f_wantedCount f_inCondition f_depth f_cursor f_outcome f_outputCount f_stepsTaken f (nI i) a_names a_values a_parents a_kinds a_operands a_priorities a_givenAt a_wanted a_axes Q a_ends a_openers a_table a_results a_matched a_listLeft a_listNode a_listPosition a_listSize a_listBody a_listReturn a_outputs := by
  intro d
  induction d with
  | zero =>
    intro i f Q hi hf h
    obtain ⟨f, rfl⟩ : ∃ x, f = x + 1 := ⟨f - 1, by omega⟩
    have e : i = 7 := by omega
    subst e
    exact br_t (by decide) (hp Q h)
  | succ d ih =>
    intro i f Q hi hf h
    obtain ⟨f, rfl⟩ : ∃ x, f = x + 1 := ⟨f - 1, by omega⟩
    refine br_f (nI_ge (b := 7) (by omega) (by decide)) ⟨vp_in_nI (by omega) (by omega), nm_r (e' := upd Q i 0) (by rw [nI_clamp (by omega)]) (nm_r (nI_1 i) (ih (i + 1) f _ (by omega) (by omega) fun t ht => ?_))⟩
    rcases Nat.lt_or_ge t i with z | z
    · rw [pk_un (by omega)]; exact h t z
    · have : t = i := by omega
      rw [this, pk_us]
theorem xw_relateNodes {post : SX → Prop} {n : Nat} (T : tr_T a_parents n) (hN : ∀ i, i < n → ∃ t, t < 6 ∧ a_names i = nI t) (hp : ∀ A Q : Nat → Int32, xs_ax A a_parents n → xs_ps Q a_names n → post (nI n, f_innermost, f_draftLength, f_rulesGiven, f_wrongToken, f_wantedCount, f_inCondition, f_depth, f_cursor, f_outcome, f_outputCount, f_stepsTaken, a_names, a_values, a_parents, a_kinds, a_operands, a_priorities, a_givenAt, a_wanted, A, Q, a_ends, a_openers, a_table, a_results, a_matched, a_listLeft, a_listNode, a_listPosition, a_listSize, a_listBody, a_listReturn, a_outputs)) : wpX_relateNodes post (nI n, f_innermost, f_draftLength, f_rulesGiven, f_wrongToken, f_wantedCount, f_inCondition, f_depth, f_cursor, f_outcome, f_outputCount, f_stepsTaken, a_names, a_values, a_parents, a_kinds, a_operands, a_priorities, a_givenAt, a_wanted, a_axes, a_passing, a_ends, a_openers, a_table, a_results, a_matched, a_listLeft, a_listNode, a_listPosition, a_listSize, a_listBody, a_listReturn, a_outputs) := by
  have hn := T.1
  refine ⟨8, xr_l2 (fun Q0 h0 => ⟨n + 1, xr_l23 T hN (fun A Q h1 hq => ⟨n + 1, xr_l108 T (fun B h2 => ⟨n + 1, xr_l125 T hq (fun C h2' h4 => ?_) n 0 (n + 1) B (by omega) (by omega) h2 (fun a ha => absurd ha (by omega))⟩) n (n + 1) A (Nat.le_refl _) (by omega) ?_⟩) n 0 (n + 1) a_axes Q0 (by omega) (by omega) (fun a ha => absurd ha (by omega)) ?_⟩) 7 0 8 a_passing rfl (by omega) (fun t ht => absurd ht (by omega))⟩
  · exact hp C Q (xr_fin T h2' h4) (fun t m ht hm => hq t ht m hm)
  · intro a ha m hm
    obtain ⟨q0, q1, q3, q2, q4⟩ := h1 a ha m hm
    refine ⟨q0, q2, q4, ?_, ?_⟩
    · rw [q1, b_0]
      exact ⟨fun z => (nomatch z), fun z => absurd z.1 (by omega)⟩
    · rw [q3, b_0]
      exact ⟨fun z => (nomatch z), fun ⟨_, c, c1, c2, _⟩ => absurd c1 (by omega)⟩
  · intro t ht m hm
    rw [h0 t ht, b_0, decide_eq_false (show ¬ m < 0 by omega), Bool.false_and]
