/-! the class: the grammar -/
variable {f_nodeCount f_innermost f_draftLength f_rulesGiven f_wrongToken f_wantedCount f_inCondition f_depth f_cursor f_outcome f_outputCount f_stepsTaken : Int32} {a_names a_values a_parents a_kinds a_operands a_priorities a_givenAt a_wanted a_axes a_passing a_ends a_openers a_table a_results a_matched a_listLeft a_listNode a_listPosition a_listSize a_listBody a_listReturn a_outputs : Nat → Int32}
/-- where a text is wrong, if it is -/
def gm_run (K : Nat → Nat) : Nat → Nat → List Nat → Option Nat
  | 0, i, s => if (∀ w, w ∈ s → w = 0 ∨ w = 4 ∨ w = 7) then none else some i
  | d + 1, i, s => match gm_st (K i) s with
    | none => some i
    | some s' => gm_run K d (i + 1) s'
theorem gm_run_n {K : Nat → Nat} : ∀ d i s, gm_run K d i s = none → gm_ac K d i s
  | 0, i, s, h => by
    rw [gm_run] at h
    by_cases z : ∀ w, w ∈ s → w = 0 ∨ w = 4 ∨ w = 7
    · exact z
    · rw [if_neg z] at h; exact nomatch h
  | d + 1, i, s, h => by
    rw [gm_run] at h
    cases e : gm_st (K i) s with
    | none => rw [e] at h; exact nomatch h
    | some s' =>
      rw [e] at h
      exact ⟨s', e, gm_run_n d (i + 1) s' h⟩
theorem xg_want {post : SX → Prop} {k v : Nat} (hk : k < 128) (hp : post (f_nodeCount, f_innermost, f_draftLength, f_rulesGiven, f_wrongToken, nI (k + 1), f_inCondition, f_depth, f_cursor, f_outcome, f_outputCount, f_stepsTaken, a_names, a_values, a_parents, a_kinds, a_operands, a_priorities, a_givenAt, upd a_wanted k (nI v), a_axes, a_passing, a_ends, a_openers, a_table, a_results, a_matched, a_listLeft, a_listNode, a_listPosition, a_listSize, a_listBody, a_listReturn, a_outputs)) : wpX_want post (f_nodeCount, f_innermost, f_draftLength, f_rulesGiven, f_wrongToken, nI k, f_inCondition, f_depth, f_cursor, f_outcome, f_outputCount, f_stepsTaken, a_names, a_values, a_parents, a_kinds, a_operands, a_priorities, a_givenAt, a_wanted, a_axes, a_passing, a_ends, a_openers, a_table, a_results, a_matched, a_listLeft, a_listNode, a_listPosition, a_listSize, a_listBody, a_listReturn, a_outputs) (nI v) :=
  br_f (nI_ge (b := 128) hk (by decide)) ⟨vp_in_nI hk (by omega), nm_r (e' := upd a_wanted k (nI v)) (by rw [nI_clamp (by omega)]) (nm_r (nI_1 k) hp)⟩
theorem xg_wl {post : SX → Prop} {l : List Nat} {v : Nat} (hl : l.length < 128) (h : sk a_wanted l) (hp : ∀ w, sk w (v :: l) → post (f_nodeCount, f_innermost, f_draftLength, f_rulesGiven, f_wrongToken, nI (v :: l).length, f_inCondition, f_depth, f_cursor, f_outcome, f_outputCount, f_stepsTaken, a_names, a_values, a_parents, a_kinds, a_operands, a_priorities, a_givenAt, w, a_axes, a_passing, a_ends, a_openers, a_table, a_results, a_matched, a_listLeft, a_listNode, a_listPosition, a_listSize, a_listBody, a_listReturn, a_outputs)) : wpX_want post (f_nodeCount, f_innermost, f_draftLength, f_rulesGiven, f_wrongToken, nI l.length, f_inCondition, f_depth, f_cursor, f_outcome, f_outputCount, f_stepsTaken, a_names, a_values, a_parents, a_kinds, a_operands, a_priorities, a_givenAt, a_wanted, a_axes, a_passing, a_ends, a_openers, a_table, a_results, a_matched, a_listLeft, a_listNode, a_listPosition, a_listSize, a_listBody, a_listReturn, a_outputs) (nI v) :=
  xg_want hl (hp _ (sk_p h))
def xg_N (t : Nat) (l : List Nat) : List Nat := if t ≤ 3 then l else if t ≤ 6 then 1 :: l else if t ≤ 13 then 0 :: 0 :: l else 0 :: l
theorem xg_number {post : Int32 → SX → Prop} {l : List Nat} {t : Nat} (ht : t ≤ 14) (hl : l.length < 124) (h : sk a_wanted l) (hp : ∀ w, sk w (xg_N t l) → post 1 (f_nodeCount, f_innermost, f_draftLength, f_rulesGiven, f_wrongToken, nI (xg_N t l).length, f_inCondition, f_depth, f_cursor, f_outcome, f_outputCount, f_stepsTaken, a_names, a_values, a_parents, a_kinds, a_operands, a_priorities, a_givenAt, w, a_axes, a_passing, a_ends, a_openers, a_table, a_results, a_matched, a_listLeft, a_listNode, a_listPosition, a_listSize, a_listBody, a_listReturn, a_outputs)) : wpX_takesNumber post (f_nodeCount, f_innermost, f_draftLength, f_rulesGiven, f_wrongToken, nI l.length, f_inCondition, f_depth, f_cursor, f_outcome, f_outputCount, f_stepsTaken, a_names, a_values, a_parents, a_kinds, a_operands, a_priorities, a_givenAt, a_wanted, a_axes, a_passing, a_ends, a_openers, a_table, a_results, a_matched, a_listLeft, a_listNode, a_listPosition, a_listSize, a_listBody, a_listReturn, a_outputs) (nI t) := by
  refine br_f (nI_pos (by omega)) (br_t (nI_le (b := 14) ht (by omega)) ?_)
  by_cases h3 : t ≤ 3
  · rw [xg_N, if_pos h3] at hp
    exact br_t (nI_lt (b := 4) (by omega) (by omega)) (br_t (nI_lt (b := 7) (by omega) (by omega)) (hp _ h))
  refine br_f (nI_nlt (b := 4) (by omega) (by omega)) ?_
  by_cases h6 : t ≤ 6
  · rw [xg_N, if_neg h3, if_pos h6] at hp
    exact br_f (nI_nlt (a := 6) (by omega) (by omega)) (xg_wl (v := 1) (by omega) h hp)
  refine br_t (nI_lt (a := 6) (by omega) (by omega)) (br_f (nI_nlt (b := 7) (by omega) (by omega)) (xg_wl (v := 0) (by omega) h fun w hw => ?_))
  by_cases h13 : t ≤ 13
  · rw [xg_N, if_neg h3, if_neg h6, if_pos h13] at hp
    refine br_f (fun z => ?_) (xg_wl (l := 0 :: l) (v := 0) (by simp; omega) hw hp)
    have := (nI_eq (b := 14) (by omega) (by omega)).mp z
    omega
  · rw [xg_N, if_neg h3, if_neg h6, if_neg h13] at hp
    have e : t = 14 := by omega
    subst e
    exact br_t (by decide) (hp w hw)
theorem xg_numberF {post : Int32 → SX → Prop} {t : Nat} (ht : 14 < t) (h100 : t < 100) (hp : post 0 (f_nodeCount, f_innermost, f_draftLength, f_rulesGiven, f_wrongToken, f_wantedCount, f_inCondition, f_depth, f_cursor, f_outcome, f_outputCount, f_stepsTaken, a_names, a_values, a_parents, a_kinds, a_operands, a_priorities, a_givenAt, a_wanted, a_axes, a_passing, a_ends, a_openers, a_table, a_results, a_matched, a_listLeft, a_listNode, a_listPosition, a_listSize, a_listBody, a_listReturn, a_outputs)) : wpX_takesNumber post (f_nodeCount, f_innermost, f_draftLength, f_rulesGiven, f_wrongToken, f_wantedCount, f_inCondition, f_depth, f_cursor, f_outcome, f_outputCount, f_stepsTaken, a_names, a_values, a_parents, a_kinds, a_operands, a_priorities, a_givenAt, a_wanted, a_axes, a_passing, a_ends, a_openers, a_table, a_results, a_matched, a_listLeft, a_listNode, a_listPosition, a_listSize, a_listBody, a_listReturn, a_outputs) (nI t) :=
  br_f (nI_pos (by omega)) (br_f (nI_ge (a := 14) ht (by omega)) hp)
theorem xg_step {post : Int32 → SX → Prop} {l : List Nat} (hl : l.length < 124) (h : sk a_wanted l) (hp : ∀ w, sk w (2 :: l) → post 1 (f_nodeCount, f_innermost, f_draftLength, f_rulesGiven, f_wrongToken, nI (2 :: l).length, f_inCondition, f_depth, f_cursor, f_outcome, f_outputCount, f_stepsTaken, a_names, a_values, a_parents, a_kinds, a_operands, a_priorities, a_givenAt, w, a_axes, a_passing, a_ends, a_openers, a_table, a_results, a_matched, a_listLeft, a_listNode, a_listPosition, a_listSize, a_listBody, a_listReturn, a_outputs)) : wpX_takesStep post (f_nodeCount, f_innermost, f_draftLength, f_rulesGiven, f_wrongToken, nI l.length, f_inCondition, f_depth, f_cursor, f_outcome, f_outputCount, f_stepsTaken, a_names, a_values, a_parents, a_kinds, a_operands, a_priorities, a_givenAt, a_wanted, a_axes, a_passing, a_ends, a_openers, a_table, a_results, a_matched, a_listLeft, a_listNode, a_listPosition, a_listSize, a_listBody, a_listReturn, a_outputs) (nI 15) :=
  br_t (by decide) (xg_wl (v := 2) (by omega) h hp)
theorem xg_stepF {post : Int32 → SX → Prop} {t : Nat} (ht : t ≠ 15) (h100 : t < 100) (hp : post 0 (f_nodeCount, f_innermost, f_draftLength, f_rulesGiven, f_wrongToken, f_wantedCount, f_inCondition, f_depth, f_cursor, f_outcome, f_outputCount, f_stepsTaken, a_names, a_values, a_parents, a_kinds, a_operands, a_priorities, a_givenAt, a_wanted, a_axes, a_passing, a_ends, a_openers, a_table, a_results, a_matched, a_listLeft, a_listNode, a_listPosition, a_listSize, a_listBody, a_listReturn, a_outputs)) : wpX_takesStep post (f_nodeCount, f_innermost, f_draftLength, f_rulesGiven, f_wrongToken, f_wantedCount, f_inCondition, f_depth, f_cursor, f_outcome, f_outputCount, f_stepsTaken, a_names, a_values, a_parents, a_kinds, a_operands, a_priorities, a_givenAt, a_wanted, a_axes, a_passing, a_ends, a_openers, a_table, a_results, a_matched, a_listLeft, a_listNode, a_listPosition, a_listSize, a_listBody, a_listReturn, a_outputs) (nI t) :=
  br_f (fun z => ht ((nI_eq (b := 15) (by omega) (by omega)).mp z)) hp
def xg_B (t : Nat) (l : List Nat) : List Nat := if t = 20 then 4 :: l else if t = 21 then 4 :: 5 :: 4 :: l else if t = 22 then 0 :: 4 :: l else if t = 23 then 1 :: 4 :: l else if t = 24 then 0 :: 4 :: 5 :: 4 :: l else 1 :: 4 :: 5 :: 4 :: l
theorem xg_body {post : Int32 → SX → Prop} {l : List Nat} {t : Nat} (h1 : 20 ≤ t) (h2 : t ≤ 25) (hl : l.length < 124) (h : sk a_wanted l) (hp : ∀ w, sk w (xg_B t l) → post 1 (f_nodeCount, f_innermost, f_draftLength, f_rulesGiven, f_wrongToken, nI (xg_B t l).length, f_inCondition, f_depth, f_cursor, f_outcome, f_outputCount, f_stepsTaken, a_names, a_values, a_parents, a_kinds, a_operands, a_priorities, a_givenAt, w, a_axes, a_passing, a_ends, a_openers, a_table, a_results, a_matched, a_listLeft, a_listNode, a_listPosition, a_listSize, a_listBody, a_listReturn, a_outputs)) : wpX_takesBody post (f_nodeCount, f_innermost, f_draftLength, f_rulesGiven, f_wrongToken, nI l.length, f_inCondition, f_depth, f_cursor, f_outcome, f_outputCount, f_stepsTaken, a_names, a_values, a_parents, a_kinds, a_operands, a_priorities, a_givenAt, a_wanted, a_axes, a_passing, a_ends, a_openers, a_table, a_results, a_matched, a_listLeft, a_listNode, a_listPosition, a_listSize, a_listBody, a_listReturn, a_outputs) (nI t) := by
  refine br_f (nI_nlt (b := 20) h1 (by omega)) (br_t (nI_lt (b := 26) (by omega) (by omega)) (xg_wl (v := 4) (by omega) h fun w hw => ?_))
  have l4 : (4 :: l).length < 125 := by simp; omega
  rcases (show t = 20 ∨ t = 21 ∨ t = 22 ∨ t = 23 ∨ t = 24 ∨ t = 25 by omega) with rfl | rfl | rfl | rfl | rfl | rfl
  · exact br_f (by decide) (br_f (by decide) (br_f (by decide) (br_f (by decide) (br_f (by decide) (br_f (by decide) (br_f (by decide) (hp w hw)))))))
  · refine br_t (by decide) (xg_wl (l := 4 :: l) (v := 5) (by omega) hw fun w hw => xg_wl (l := 5 :: 4 :: l) (v := 4) (by simp; omega) hw fun w hw => ?_)
    exact br_f (by decide) (br_f (by decide) (br_f (by decide) (br_f (by decide) (hp w hw))))
  · exact br_f (by decide) (br_f (by decide) (br_f (by decide) (br_t (by decide) (xg_wl (l := 4 :: l) (v := 0) (by omega) hw hp))))
  · exact br_f (by decide) (br_f (by decide) (br_f (by decide) (br_f (by decide) (br_f (by decide) (br_t (by decide) (xg_wl (l := 4 :: l) (v := 1) (by omega) hw hp))))))
  · refine br_f (by decide) (br_t (by decide) (xg_wl (l := 4 :: l) (v := 5) (by omega) hw fun w hw => xg_wl (l := 5 :: 4 :: l) (v := 4) (by simp; omega) hw fun w hw => ?_))
    exact br_f (by decide) (br_t (by decide) (xg_wl (l := 4 :: 5 :: 4 :: l) (v := 0) (by simp; omega) hw hp))
  · refine br_f (by decide) (br_f (by decide) (br_t (by decide) (xg_wl (l := 4 :: l) (v := 5) (by omega) hw fun w hw => xg_wl (l := 5 :: 4 :: l) (v := 4) (by simp; omega) hw fun w hw => ?_)))
    exact br_f (by decide) (br_f (by decide) (br_f (by decide) (br_t (by decide) (xg_wl (l := 4 :: 5 :: 4 :: l) (v := 1) (by simp; omega) hw hp))))
theorem xg_bodyF {post : Int32 → SX → Prop} {t : Nat} (h : t < 20 ∨ 26 ≤ t) (h100 : t < 100) (hp : post 0 (f_nodeCount, f_innermost, f_draftLength, f_rulesGiven, f_wrongToken, f_wantedCount, f_inCondition, f_depth, f_cursor, f_outcome, f_outputCount, f_stepsTaken, a_names, a_values, a_parents, a_kinds, a_operands, a_priorities, a_givenAt, a_wanted, a_axes, a_passing, a_ends, a_openers, a_table, a_results, a_matched, a_listLeft, a_listNode, a_listPosition, a_listSize, a_listBody, a_listReturn, a_outputs)) : wpX_takesBody post (f_nodeCount, f_innermost, f_draftLength, f_rulesGiven, f_wrongToken, f_wantedCount, f_inCondition, f_depth, f_cursor, f_outcome, f_outputCount, f_stepsTaken, a_names, a_values, a_parents, a_kinds, a_operands, a_priorities, a_givenAt, a_wanted, a_axes, a_passing, a_ends, a_openers, a_table, a_results, a_matched, a_listLeft, a_listNode, a_listPosition, a_listSize, a_listBody, a_listReturn, a_outputs) (nI t) := by
  by_cases h1 : t < 20
  · exact br_t (nI_lt (b := 20) h1 (by omega)) hp
  · exact br_f (nI_nlt (b := 20) (by omega) (by omega)) (br_f (nI_nlt (b := 26) (by omega) (by omega)) hp)
theorem xg_top {x : Nat} {l : List Nat} {w : Nat → Int32} (h : sk w (x :: l)) (hl : l.length < 128) : w (nI (x :: l).length - 1).toNatClampNeg = nI x := by
  rw [List.length_cons, nI_pred, nI_clamp (by omega)]; exact h.1
theorem xg_takes_l {post : Int32 → SX → Prop} {t : Nat} (ht : t < 100) {z : Bool} {b : List Nat} (hb : (z = true ∧ b = []) ∨ (z = false ∧ b = [6])) :
    ∀ (s : List Nat) (c : Bool) (k f : Nat) (w : Nat → Int32), sk_ok z c s → sk w (sk_fl b s) → k + (sk_fl b s).length < 128 → (sk_fl b s).length < 125 → (sk_fl b s).length < f →
      (gm_st t s = none → ∀ (wc ic : Int32) (w' : Nat → Int32), post 0 (f_nodeCount, f_innermost, f_draftLength, f_rulesGiven, f_wrongToken, wc, ic, f_depth, f_cursor, f_outcome, f_outputCount, f_stepsTaken, a_names, a_values, a_parents, a_kinds, a_operands, a_priorities, a_givenAt, w', a_axes, a_passing, a_ends, a_openers, a_table, a_results, a_matched, a_listLeft, a_listNode, a_listPosition, a_listSize, a_listBody, a_listReturn, a_outputs)) →
      (∀ s', gm_st t s = some s' → ∀ (c' : Bool) (w' : Nat → Int32), sk_ok z c' s' → sk w' (sk_fl b s') → post 1 (f_nodeCount, f_innermost, f_draftLength, f_rulesGiven, f_wrongToken, nI (sk_fl b s').length, ys_b c', f_depth, f_cursor, f_outcome, f_outputCount, f_stepsTaken, a_names, a_values, a_parents, a_kinds, a_operands, a_priorities, a_givenAt, w', a_axes, a_passing, a_ends, a_openers, a_table, a_results, a_matched, a_listLeft, a_listNode, a_listPosition, a_listSize, a_listBody, a_listReturn, a_outputs)) →
      wX_takes_2 post (nI t) f (nI k) f_nodeCount f_innermost f_draftLength f_rulesGiven f_wrongToken (nI (sk_fl b s).length) (ys_b c) f_depth f_cursor f_outcome f_outputCount f_stepsTaken a_names a_values a_parents a_kinds a_operands a_priorities a_givenAt w a_axes a_passing a_ends a_openers a_table a_results a_matched a_listLeft a_listNode a_listPosition a_listSize a_listBody a_listReturn a_outputs := by
  have empty : ∀ (c : Int32) (k f : Nat) (w : Nat → Int32), k < 128 → (∀ (wc ic : Int32) (w' : Nat → Int32), post 0 (f_nodeCount, f_innermost, f_draftLength, f_rulesGiven, f_wrongToken, wc, ic, f_depth, f_cursor, f_outcome, f_outputCount, f_stepsTaken, a_names, a_values, a_parents, a_kinds, a_operands, a_priorities, a_givenAt, w', a_axes, a_passing, a_ends, a_openers, a_table, a_results, a_matched, a_listLeft, a_listNode, a_listPosition, a_listSize, a_listBody, a_listReturn, a_outputs)) → wX_takes_2 post (nI t) (f + 1) (nI k) f_nodeCount f_innermost f_draftLength f_rulesGiven f_wrongToken (nI 0) c f_depth f_cursor f_outcome f_outputCount f_stepsTaken a_names a_values a_parents a_kinds a_operands a_priorities a_givenAt w a_axes a_passing a_ends a_openers a_table a_results a_matched a_listLeft a_listNode a_listPosition a_listSize a_listBody a_listReturn a_outputs := fun c k f w hk hp =>
    br_f (nI_ge (b := 128) hk (by decide)) (br_t (by decide) (hp _ _ _))
  intro s
  induction s with
  | nil =>
    intro c k f w hok hw hk hl hf h0 h1
    obtain ⟨f, rfl⟩ : ∃ x, f = x + 1 := ⟨f - 1, by omega⟩
    have hn := h0 rfl
    rcases hb with ⟨_, rfl⟩ | ⟨_, rfl⟩
    · exact empty _ k f w (by omega) hn
    · have hk' : k + 1 < 128 := hk
      have hf' : 1 < f + 1 := hf
      obtain ⟨f, rfl⟩ : ∃ x, f = x + 1 := ⟨f - 1, by omega⟩
      refine br_f (nI_ge (b := 128) (by omega) (by decide)) (br_f (by decide) (nm_r (e' := nI 0) (nI_pred 0) ⟨vp_in_nI (by omega) (by omega), nm_r (e' := nI 6) (by rw [nI_clamp (by omega)]; exact hw.1) ?_⟩))
      exact br_f (by decide) (br_f (by decide) (br_f (by decide) (br_f (by decide) (br_f (by decide) (br_f (by decide) (nm_r (nI_1 k) (empty _ (k + 1) f w (by omega) hn)))))))
  | cons a s ih =>
    intro c k f w hok hw hk hl hf h0 h1
    obtain ⟨f, rfl⟩ : ∃ x, f = x + 1 := ⟨f - 1, by omega⟩
    have shape : (c = false ∧ ((a = 0 ∧ s = [] ∧ z = true) ∨ (1 ≤ a ∧ a ≤ 4 ∧ sk_out z s))) ∨ (c = true ∧ ((a = 8 ∧ sk_out z s) ∨ (5 ≤ a ∧ a ≤ 7 ∧ sk_in z s))) := by
      cases c
      · exact Or.inl ⟨rfl, hok⟩
      · exact Or.inr ⟨rfl, hok⟩
    have okst : ∀ s', gm_st t (a :: s) = some s' → ∃ c', sk_ok z c' s' := fun s' e => ⟨_, (sk_st hok e).choose_spec.1⟩
    have start : ∀ (x : Nat) (l : List Nat), sk_fl b (a :: s) = x :: l → l.length < 124 ∧ sk w l ∧ w l.length = nI x := fun x l e => by
      rw [e] at hw hl
      have hl' : l.length + 1 < 125 := hl
      exact ⟨by omega, hw.2, hw.1⟩
    rcases shape with ⟨rfl, ⟨rfl, rfl, hz⟩ | ⟨a1, a4, hs⟩⟩ | ⟨rfl, ⟨rfl, hs⟩ | ⟨a5, a7, hs⟩⟩
    · -- a body at the bottom
      rcases hb with ⟨_, rfl⟩ | ⟨q, _⟩
      · have e : sk_fl [] [0] = [4] := rfl
        obtain ⟨g1, g2, g3⟩ := start 4 [] e
        rw [gm_stB _ _ _ (by omega)] at h0 h1
        rw [e] at hk hf ⊢
        have hk' : k + 1 < 128 := hk
        have hf' : 1 < f + 1 := hf
        obtain ⟨f, rfl⟩ : ∃ x, f = x + 1 := ⟨f - 1, by omega⟩
        refine br_f (nI_ge (b := 128) (by omega) (by decide)) (br_f (by decide) (nm_r (e' := nI 0) (nI_pred 0) ⟨vp_in_nI (by omega) (by omega), nm_r (e' := nI 4) (by rw [nI_clamp (by omega)]; exact g3) ?_⟩))
        refine br_f (by decide) (br_f (by decide) (br_f (by decide) (br_f (by decide) (br_f (by decide) (br_t (by decide) ?_)))))
        by_cases hB : 20 ≤ t ∧ t ≤ 25
        · refine xg_body (l := []) (a_wanted := w) hB.1 hB.2 (by decide) trivial fun w' hw' => br_f (by decide) ?_
          have ok0 : ∀ s', sk_out z s' → sk_ok z false s' := fun _ q => q
          rcases (show t = 20 ∨ t = 21 ∨ t = 22 ∨ t = 23 ∨ t = 24 ∨ t = 25 by omega) with rfl | rfl | rfl | rfl | rfl | rfl
          · exact h1 _ rfl false w' (ok0 _ (by simp [sk_out, hz])) hw'
          · exact h1 _ rfl false w' (ok0 _ (by simp [sk_out, hz])) hw'
          · exact h1 _ rfl false w' (ok0 _ (by simp [sk_out, hz])) hw'
          · exact h1 _ rfl false w' (ok0 _ (by simp [sk_out, hz])) hw'
          · exact h1 _ rfl false w' (ok0 _ (by simp [sk_out, hz])) hw'
          · exact h1 _ rfl false w' (ok0 _ (by simp [sk_out, hz])) hw'
        · refine xg_bodyF (by omega) ht (br_t rfl (nm_r (nI_1 k) (empty _ (k + 1) f w (by omega) (h0 ?_))))
          rw [if_neg (by omega), if_neg (by omega), if_neg (by omega), if_neg (by omega), if_neg (by omega), if_neg (by omega), if_neg (by omega)]
      · rw [hz] at q; exact nomatch q
    · rcases (show a = 1 ∨ a = 2 ∨ a = 3 ∨ a = 4 by omega) with rfl | rfl | rfl | rfl
      · -- a body that an END ends
        have e : sk_fl b (1 :: s) = 4 :: 5 :: sk_fl b s := rfl
        obtain ⟨g1, g2, g3⟩ := start 4 (5 :: sk_fl b s) e
        rw [e] at hk hf ⊢
        have hk' : k + ((5 :: sk_fl b s).length + 1) < 128 := hk
        have hf' : (5 :: sk_fl b s).length + 1 < f + 1 := hf
        have g1' : (sk_fl b s).length + 1 < 124 := g1
        have hk2 : k + ((sk_fl b s).length + 2) < 128 := hk'
        have hf2 : (sk_fl b s).length + 2 < f + 1 := hf'
        rw [gm_stB _ _ _ (by omega)] at h0 h1
        refine br_f (nI_ge (b := 128) (by omega) (by decide)) (br_f (nI_nle (n := ((sk_fl b s).length + 1) + 1) (by omega) (by omega)) (nm_r (e' := nI ((sk_fl b s).length + 1)) (nI_pred _) ⟨vp_in_nI (by omega) (by omega), nm_r (e' := nI 4) (by rw [nI_clamp (by omega)]; exact g3) ?_⟩))
        refine br_f (by decide) (br_f (by decide) (br_f (by decide) (br_f (by decide) (br_f (by decide) (br_t (by decide) ?_)))))
        by_cases hB : 20 ≤ t ∧ t ≤ 25
        · refine xg_body (l := 5 :: sk_fl b s) (a_wanted := w) hB.1 hB.2 (by omega) g2 fun w' hw' => br_f (by decide) ?_
          rcases (show t = 20 ∨ t = 21 ∨ t = 22 ∨ t = 23 ∨ t = 24 ∨ t = 25 by omega) with rfl | rfl | rfl | rfl | rfl | rfl
          · exact h1 _ rfl false w' (by simp [sk_ok, sk_out, hs]) hw'
          · exact h1 _ rfl false w' (by simp [sk_ok, sk_out, hs]) hw'
          · exact h1 _ rfl false w' (by simp [sk_ok, sk_out, hs]) hw'
          · exact h1 _ rfl false w' (by simp [sk_ok, sk_out, hs]) hw'
          · exact h1 _ rfl false w' (by simp [sk_ok, sk_out, hs]) hw'
          · exact h1 _ rfl false w' (by simp [sk_ok, sk_out, hs]) hw'
        · refine xg_bodyF (by omega) ht (br_t rfl (nm_r (nI_1 k) ?_))
          obtain ⟨f, rfl⟩ : ∃ x, f = x + 1 := ⟨f - 1, by omega⟩
          have g3 : w (sk_fl b s).length = nI 5 := g2.1
          refine br_f (nI_ge (b := 128) (by omega) (by decide)) (br_f (nI_nle (n := (sk_fl b s).length + 1) (by omega) (by omega)) (nm_r (e' := nI (sk_fl b s).length) (nI_pred _) ⟨vp_in_nI (by omega) (by omega), nm_r (e' := nI 5) (by rw [nI_clamp (by omega)]; exact g3) ?_⟩))
          refine br_f (by decide) (br_f (by decide) (br_f (by decide) (br_t (by decide) ?_)))
          rw [if_neg (by omega), if_neg (by omega), if_neg (by omega), if_neg (by omega), if_neg (by omega), if_neg (by omega)] at h0
          refine pk_eq t 26 (fun q => ?_) (fun q => h0 (if_neg (fun y => q y.1)) _ _ _)
          subst q
          exact h1 s rfl false w hs g2.2
      · -- a number is wanted
        have e : sk_fl b (2 :: s) = 0 :: sk_fl b s := rfl
        obtain ⟨g1, g2, g3⟩ := start 0 (sk_fl b s) e
        rw [e] at hk hf ⊢
        have hk' : k + ((sk_fl b s).length + 1) < 128 := hk
        have hf' : (sk_fl b s).length + 1 < f + 1 := hf
        rw [gm_stN _ _ _ (by omega)] at h0 h1
        refine br_f (nI_ge (b := 128) (by omega) (by decide)) (br_f (nI_nle (n := (sk_fl b s).length + 1) (by omega) (by omega)) (nm_r (e' := nI (sk_fl b s).length) (nI_pred _) ⟨vp_in_nI (by omega) (by omega), nm_r (e' := nI 0) (by rw [nI_clamp (by omega)]; exact g3) ?_⟩))
        refine br_t (by decide) ?_
        by_cases h14 : t ≤ 14
        · refine xg_number (a_wanted := w) h14 (by omega) g2 fun w' hw' => ⟨rfl, ?_⟩
          unfold xg_N at hw' ⊢
          by_cases h3 : t ≤ 3
          · rw [if_pos h3] at hw' ⊢
            exact h1 s (if_pos h3) false w' hs hw'
          rw [if_neg h3] at hw' ⊢
          by_cases h6 : t ≤ 6
          · rw [if_pos h6] at hw' ⊢
            exact h1 (3 :: s) (by rw [if_neg h3, if_pos h6]) false w' (by simp [sk_ok, sk_out, hs]) hw'
          rw [if_neg h6] at hw' ⊢
          by_cases h13 : t ≤ 13
          · rw [if_pos h13] at hw' ⊢
            exact h1 (2 :: 2 :: s) (by rw [if_neg h3, if_neg h6, if_pos h13]) false w' (by simp [sk_ok, sk_out, hs]) hw'
          · rw [if_neg h13] at hw' ⊢
            exact h1 (2 :: s) (by rw [if_neg h3, if_neg h6, if_neg h13, if_pos (by omega)]) false w' (by simp [sk_ok, sk_out, hs]) hw'
        · refine xg_numberF (by omega) ht ⟨rfl, h0 ?_ _ _ _⟩
          rw [if_neg (by omega), if_neg (by omega), if_neg (by omega), if_neg (by omega)]
      · -- a path is wanted
        have e : sk_fl b (3 :: s) = 1 :: sk_fl b s := rfl
        obtain ⟨g1, g2, g3⟩ := start 1 (sk_fl b s) e
        rw [e] at hk hf ⊢
        have hk' : k + ((sk_fl b s).length + 1) < 128 := hk
        have hf' : (sk_fl b s).length + 1 < f + 1 := hf
        rw [gm_stP _ _ _ (by omega)] at h0 h1
        refine br_f (nI_ge (b := 128) (by omega) (by decide)) (br_f (nI_nle (n := (sk_fl b s).length + 1) (by omega) (by omega)) (nm_r (e' := nI (sk_fl b s).length) (nI_pred _) ⟨vp_in_nI (by omega) (by omega), nm_r (e' := nI 1) (by rw [nI_clamp (by omega)]; exact g3) ?_⟩))
        refine br_f (by decide) (br_t (by decide) ?_)
        by_cases h15 : t = 15
        · subst h15
          exact xg_step (a_wanted := w) (by omega) g2 fun w' hw' => ⟨rfl, h1 (4 :: s) (if_pos rfl) false w' (by simp [sk_ok, sk_out, hs]) hw'⟩
        · exact xg_stepF h15 ht ⟨rfl, h0 (if_neg h15) _ _ _⟩
      · -- more of a path may come
        have e : sk_fl b (4 :: s) = 2 :: sk_fl b s := rfl
        obtain ⟨g1, g2, g3⟩ := start 2 (sk_fl b s) e
        rw [e] at hk hf ⊢
        have hk' : k + ((sk_fl b s).length + 1) < 128 := hk
        have hf' : (sk_fl b s).length + 1 < f + 1 := hf
        rw [gm_st4] at h0 h1
        refine br_f (nI_ge (b := 128) (by omega) (by decide)) (br_f (nI_nle (n := (sk_fl b s).length + 1) (by omega) (by omega)) (nm_r (e' := nI (sk_fl b s).length) (nI_pred _) ⟨vp_in_nI (by omega) (by omega), nm_r (e' := nI 2) (by rw [nI_clamp (by omega)]; exact g3) ?_⟩))
        refine br_f (by decide) (br_f (by decide) (br_f (by decide) (br_f (by decide) (br_t (by decide) ?_))))
        by_cases h16 : t = 16
        · subst h16
          refine br_t (by decide) (br_t (by decide) (xg_wl (v := 2) (by omega) g2 fun w1 hw1 => xg_wl (l := 2 :: sk_fl b s) (v := 3) (by simp; omega) hw1 fun w2 hw2 => xg_wl (l := 3 :: 2 :: sk_fl b s) (v := 0) (by simp; omega) hw2 fun w3 hw3 => br_f (by decide) ?_))
          exact h1 (5 :: 8 :: 4 :: s) rfl true w3 (by simp [sk_ok, sk_in, sk_out, hs]) hw3
        have m35 : ∀ {P : Int32 → SX → Prop} {w : Nat → Int32}, wX_takesMorePath_35 P (nI t) f_nodeCount f_innermost f_draftLength f_rulesGiven f_wrongToken (nI (sk_fl b s).length) (ys_b false) f_depth f_cursor f_outcome f_outputCount f_stepsTaken a_names a_values a_parents a_kinds a_operands a_priorities a_givenAt w a_axes a_passing a_ends a_openers a_table a_results a_matched a_listLeft a_listNode a_listPosition a_listSize a_listBody a_listReturn a_outputs → wpX_takesMorePath P (f_nodeCount, f_innermost, f_draftLength, f_rulesGiven, f_wrongToken, nI (sk_fl b s).length, ys_b false, f_depth, f_cursor, f_outcome, f_outputCount, f_stepsTaken, a_names, a_values, a_parents, a_kinds, a_operands, a_priorities, a_givenAt, w, a_axes, a_passing, a_ends, a_openers, a_table, a_results, a_matched, a_listLeft, a_listNode, a_listPosition, a_listSize, a_listBody, a_listReturn, a_outputs) (nI t) := fun h => br_f (fun q => h16 ((nI_eq (b := 16) (by omega) (by omega)).mp q)) h
        refine m35 ?_
        by_cases h15 : t = 15
        · subst h15
          exact xg_step (a_wanted := w) (by omega) g2 fun w' hw' => ⟨rfl, br_f (by decide) (h1 (4 :: s) (if_pos rfl) false w' (by simp [sk_ok, sk_out, hs]) hw')⟩
        · refine xg_stepF h15 ht ⟨rfl, br_t rfl (br_f (by decide) (nm_r (nI_1 k) (ih false (k + 1) f w hs g2 (by omega) (by omega) (by omega) (fun q => h0 ?_) (fun s' q => h1 s' ?_))))⟩
          · rw [if_neg h15, if_neg h16]; exact q
          · rw [if_neg h15, if_neg h16]; exact q
    · -- a closing bracket
      have e : sk_fl b (8 :: s) = 3 :: sk_fl b s := rfl
      obtain ⟨g1, g2, g3⟩ := start 3 (sk_fl b s) e
      rw [e] at hk hf ⊢
      have hk' : k + ((sk_fl b s).length + 1) < 128 := hk
      have hf' : (sk_fl b s).length + 1 < f + 1 := hf
      rw [gm_st8] at h0 h1
      refine br_f (nI_ge (b := 128) (by omega) (by decide)) (br_f (nI_nle (n := (sk_fl b s).length + 1) (by omega) (by omega)) (nm_r (e' := nI (sk_fl b s).length) (nI_pred _) ⟨vp_in_nI (by omega) (by omega), nm_r (e' := nI 3) (by rw [nI_clamp (by omega)]; exact g3) ?_⟩))
      refine br_f (by decide) (br_f (by decide) (br_t (by decide) (pk_eq t 17 (fun q => ?_) (fun q => h0 (if_neg q) _ _ _))))
      subst q
      exact h1 s rfl false w hs g2
    · rcases (show a = 5 ∨ a = 6 ∨ a = 7 by omega) with rfl | rfl | rfl
      · -- a number is wanted
        have e : sk_fl b (5 :: s) = 0 :: sk_fl b s := rfl
        obtain ⟨g1, g2, g3⟩ := start 0 (sk_fl b s) e
        rw [e] at hk hf ⊢
        have hk' : k + ((sk_fl b s).length + 1) < 128 := hk
        have hf' : (sk_fl b s).length + 1 < f + 1 := hf
        rw [gm_stN _ _ _ (by omega)] at h0 h1
        refine br_f (nI_ge (b := 128) (by omega) (by decide)) (br_f (nI_nle (n := (sk_fl b s).length + 1) (by omega) (by omega)) (nm_r (e' := nI (sk_fl b s).length) (nI_pred _) ⟨vp_in_nI (by omega) (by omega), nm_r (e' := nI 0) (by rw [nI_clamp (by omega)]; exact g3) ?_⟩))
        refine br_t (by decide) ?_
        by_cases h14 : t ≤ 14
        · refine xg_number (a_wanted := w) h14 (by omega) g2 fun w' hw' => ⟨rfl, ?_⟩
          unfold xg_N at hw' ⊢
          by_cases h3 : t ≤ 3
          · rw [if_pos h3] at hw' ⊢
            exact h1 s (if_pos h3) true w' hs hw'
          rw [if_neg h3] at hw' ⊢
          by_cases h6 : t ≤ 6
          · rw [if_pos h6] at hw' ⊢
            exact h1 (6 :: s) (by rw [if_neg h3, if_pos h6]) true w' (by simp [sk_ok, sk_in, hs]) hw'
          rw [if_neg h6] at hw' ⊢
          by_cases h13 : t ≤ 13
          · rw [if_pos h13] at hw' ⊢
            exact h1 (5 :: 5 :: s) (by rw [if_neg h3, if_neg h6, if_pos h13]) true w' (by simp [sk_ok, sk_in, hs]) hw'
          · rw [if_neg h13] at hw' ⊢
            exact h1 (5 :: s) (by rw [if_neg h3, if_neg h6, if_neg h13, if_pos (by omega)]) true w' (by simp [sk_ok, sk_in, hs]) hw'
        · refine xg_numberF (by omega) ht ⟨rfl, h0 ?_ _ _ _⟩
          rw [if_neg (by omega), if_neg (by omega), if_neg (by omega), if_neg (by omega)]
      · -- a path is wanted
        have e : sk_fl b (6 :: s) = 1 :: sk_fl b s := rfl
        obtain ⟨g1, g2, g3⟩ := start 1 (sk_fl b s) e
        rw [e] at hk hf ⊢
        have hk' : k + ((sk_fl b s).length + 1) < 128 := hk
        have hf' : (sk_fl b s).length + 1 < f + 1 := hf
        rw [gm_stP _ _ _ (by omega)] at h0 h1
        refine br_f (nI_ge (b := 128) (by omega) (by decide)) (br_f (nI_nle (n := (sk_fl b s).length + 1) (by omega) (by omega)) (nm_r (e' := nI (sk_fl b s).length) (nI_pred _) ⟨vp_in_nI (by omega) (by omega), nm_r (e' := nI 1) (by rw [nI_clamp (by omega)]; exact g3) ?_⟩))
        refine br_f (by decide) (br_t (by decide) ?_)
        by_cases h15 : t = 15
        · subst h15
          exact xg_step (a_wanted := w) (by omega) g2 fun w' hw' => ⟨rfl, h1 (7 :: s) (if_pos rfl) true w' (by simp [sk_ok, sk_in, hs]) hw'⟩
        · exact xg_stepF h15 ht ⟨rfl, h0 (if_neg h15) _ _ _⟩
      · -- more of a path may come
        have e : sk_fl b (7 :: s) = 2 :: sk_fl b s := rfl
        obtain ⟨g1, g2, g3⟩ := start 2 (sk_fl b s) e
        rw [e] at hk hf ⊢
        have hk' : k + ((sk_fl b s).length + 1) < 128 := hk
        have hf' : (sk_fl b s).length + 1 < f + 1 := hf
        rw [gm_st7] at h0 h1
        refine br_f (nI_ge (b := 128) (by omega) (by decide)) (br_f (nI_nle (n := (sk_fl b s).length + 1) (by omega) (by omega)) (nm_r (e' := nI (sk_fl b s).length) (nI_pred _) ⟨vp_in_nI (by omega) (by omega), nm_r (e' := nI 2) (by rw [nI_clamp (by omega)]; exact g3) ?_⟩))
        refine br_f (by decide) (br_f (by decide) (br_f (by decide) (br_f (by decide) (br_t (by decide) ?_))))
        have m35 : ∀ {P : Int32 → SX → Prop} {w : Nat → Int32}, wX_takesMorePath_35 P (nI t) f_nodeCount f_innermost f_draftLength f_rulesGiven f_wrongToken (nI (sk_fl b s).length) (ys_b true) f_depth f_cursor f_outcome f_outputCount f_stepsTaken a_names a_values a_parents a_kinds a_operands a_priorities a_givenAt w a_axes a_passing a_ends a_openers a_table a_results a_matched a_listLeft a_listNode a_listPosition a_listSize a_listBody a_listReturn a_outputs → wpX_takesMorePath P (f_nodeCount, f_innermost, f_draftLength, f_rulesGiven, f_wrongToken, nI (sk_fl b s).length, ys_b true, f_depth, f_cursor, f_outcome, f_outputCount, f_stepsTaken, a_names, a_values, a_parents, a_kinds, a_operands, a_priorities, a_givenAt, w, a_axes, a_passing, a_ends, a_openers, a_table, a_results, a_matched, a_listLeft, a_listNode, a_listPosition, a_listSize, a_listBody, a_listReturn, a_outputs) (nI t) := fun h => br_c (fun _ => br_f (by decide) h) (fun _ => h)
        refine m35 ?_
        by_cases h15 : t = 15
        · subst h15
          exact xg_step (a_wanted := w) (by omega) g2 fun w' hw' => ⟨rfl, br_f (by decide) (h1 (7 :: s) (if_pos rfl) true w' (by simp [sk_ok, sk_in, hs]) hw')⟩
        · refine xg_stepF h15 ht ⟨rfl, br_t rfl (br_f (by decide) (nm_r (nI_1 k) (ih true (k + 1) f w hs g2 (by omega) (by omega) (by omega) (fun q => h0 ?_) (fun s' q => h1 s' ?_))))⟩
          · rw [if_neg h15]; exact q
          · rw [if_neg h15]; exact q
