/-! rules that match; the rule for a node -/
def bs_i (b : Option Nat) : Int32 := match b with
  | none => -1
  | some r => nI r
def bs_f (Pr G : Nat → Int32) (r : Nat) (b : Option Nat) : Bool := match b with
  | none => true
  | some x => decide (Pr x < Pr r ∨ (Pr r = Pr x ∧ ¬ G r ≤ G x))
/-- the best of the rules from r on, b being the best so far -/
def bs (M : Nat → Bool) (Pr G : Nat → Int32) : Nat → Nat → Option Nat → Option Nat
  | 0, _, b => b
  | d + 1, r, b => bs M Pr G d (r + 1) (if M r = true ∧ bs_f Pr G r b = true then some r else b)
theorem bs_m {M : Nat → Bool} {Pr G : Nat → Int32} : ∀ {d r : Nat} {b : Option Nat} {x : Nat}, (∀ y, b = some y → M y = true ∧ y < r + d) → bs M Pr G d r b = some x → M x = true ∧ x < r + d
  | 0, r, b, x, hb, h => hb x h
  | d + 1, r, b, x, hb, h => by
    rw [bs] at h
    have := bs_m (d := d) (r := r + 1) (fun y hy => ?_) h
    · exact ⟨this.1, by omega⟩
    · split at hy
      · rename_i q
        cases hy
        exact ⟨q.1, by omega⟩
      · have := hb y hy
        exact ⟨this.1, by omega⟩
section
variable {f_nodeCount f_innermost f_draftLength f_rulesGiven f_wrongToken f_wantedCount f_inCondition f_depth f_cursor f_outcome f_outputCount f_stepsTaken : Int32} {a_names a_values a_parents a_kinds a_operands a_priorities a_givenAt a_wanted a_axes a_passing a_ends a_openers a_table a_results a_matched a_listLeft a_listNode a_listPosition a_listSize a_listBody a_listReturn a_outputs : Nat → Int32}
theorem xo_m22 {post : SX → Prop} {J : Int32 → (Nat → Int32) → (Nat → Int32) → (Nat → Int32) → (Nat → Int32) → (Nat → Int32) → (Nat → Int32) → (Nat → Int32) → (Nat → Int32) → (Nat → Int32) → (Nat → Int32) → (Nat → Int32) → (Nat → Int32) → (Nat → Int32) → (Nat → Int32) → (Nat → Int32) → (Nat → Int32) → (Nat → Int32) → (Nat → Int32) → (Nat → Int32) → (Nat → Int32) → (Nat → Int32) → (Nat → Int32) → Prop} {n r : Nat} {k0 : Nat} (hn : n ≤ 24) (hr : r < 6) (hA : xs_ax a_axes a_parents n) (hk : a_kinds (32 * r) = nI k0) (hk27 : k0 ≤ 27)
    (hJ : ∀ M : Nat → Int32, (∀ j, j ≠ r → M j = a_matched j) → (∀ i, i < n → (bt (M r) i = true ↔ k0 = 15 ∧ ∃ a, a < n ∧ bt (a_table (32 * r * 24 + a)) i = true ∧ (i = a ∨ tr_a a_parents a i = true))) → J (nI (r + 1)) a_names a_values a_parents a_kinds a_operands a_priorities a_givenAt a_wanted a_axes a_passing a_ends a_openers a_table a_results M a_listLeft a_listNode a_listPosition a_listSize a_listBody a_listReturn a_outputs) :
    ∀ d a f M, a + d = n → d < f → (∀ j, j ≠ r → M j = a_matched j) → (∀ i, i < n → (bt (M r) i = true ↔ k0 = 15 ∧ ∃ b, b < a ∧ bt (a_table (32 * r * 24 + b)) i = true ∧ (i = b ∨ tr_a a_parents b i = true))) → wX_matchRules_22 post J (nI r) (nI (32 * r)) (nI n) f_innermost f_draftLength f_rulesGiven f_wrongToken f_wantedCount f_inCondition f_depth f_cursor f_outcome f_outputCount f_stepsTaken f (nI a) a_names a_values a_parents a_kinds a_operands a_priorities a_givenAt a_wanted a_axes a_passing a_ends a_openers a_table a_results M a_listLeft a_listNode a_listPosition a_listSize a_listBody a_listReturn a_outputs := by
  have cr : (nI r).toNatClampNeg = r := nI_clamp (by omega)
  intro d
  induction d with
  | zero =>
    intro a f M ha hf fr h
    obtain ⟨f, rfl⟩ : ∃ x, f = x + 1 := ⟨f - 1, by omega⟩
    have e : a = n := by omega
    subst e
    exact br_t (nI_le (Nat.le_refl _) (by omega)) (nm_r (nI_1 r) (hJ M fr h))
  | succ d ih =>
    intro a f M ha hf fr h
    obtain ⟨f, rfl⟩ : ∃ x, f = x + 1 := ⟨f - 1, by omega⟩
    have e72 : (72 : Int32) + nI a = nI (72 + a) := nI_add 72 a
    have ix := xw_ix (32 * r) a
    refine br_f (nI_ge (by omega) (by omega)) ⟨vp_in_nI (by omega) (by omega), ?_⟩
    rw [nI_clamp (by omega), hk]
    by_cases k15 : k0 = 15
    · rw [k15]
      refine br_t (by decide) ⟨by rw [e72]; exact vp_in_nI (by omega) (by omega), nm_r (e' := a_axes (72 + a) ||| ((1 : Int32) <<< (nI a &&& 31))) (by rw [e72, nI_clamp (by omega)]) ⟨vp_in_nI hr (by omega), by rw [ix]; exact vp_in_nI (by omega) (by omega), vp_in_nI hr (by omega), nm_r (e' := upd M r (M r ||| (a_table (32 * r * 24 + a) &&& (a_axes (72 + a) ||| ((1 : Int32) <<< (nI a &&& 31)))))) (by rw [cr, ix, nI_clamp (by omega)]) (nm_r (nI_1 a) (ih (a + 1) f _ (by omega) (by omega) (fun j hj => by rw [pk_un hj]; exact fr j hj) fun i hi => ?_))⟩⟩
      have ax := hA 3 a i (by omega) (by omega) (by omega)
      rw [show 3 * 24 + a = 72 + a by omega, tr_on3, decide_eq_true hi, Bool.true_and] at ax
      rw [pk_us, b_or, b_and, b_or, ax, ms_1 a (by omega) i (by omega), Bool.or_eq_true, Bool.and_eq_true, Bool.or_eq_true, decide_eq_true_eq, h i hi]
      constructor
      · rintro (⟨_, b, b1, b2⟩ | ⟨z1, z2⟩)
        · exact ⟨k15, b, by omega, b2⟩
        · exact ⟨k15, a, by omega, z1, z2.symm⟩
      · rintro ⟨_, b, b1, b2, b3⟩
        rcases Nat.lt_or_ge b a with q | q
        · exact Or.inl ⟨k15, b, q, b2, b3⟩
        · have : b = a := by omega
          rw [this] at b2 b3
          exact Or.inr ⟨b2, b3.symm⟩
    · refine br_f (fun z => k15 ((nI_eq (b := 15) (by omega) (by omega)).mp z)) (nm_r (nI_1 r) (hJ M fr fun i hi => (h i hi).trans ⟨fun z => absurd z.1 k15, fun z => absurd z.1 k15⟩))
theorem xo_m2 {post : SX → Prop} {K : Nat → Nat → Nat} {n : Nat} (hn : n ≤ 24) (hA : xs_ax a_axes a_parents n) (hk : ∀ r, r < 6 → a_kinds (32 * r) = nI (K r 0) ∧ K r 0 ≤ 27)
    (hp : ∀ M : Nat → Int32, (∀ r, r < 6 → ∀ i, i < n → (bt (M r) i = true ↔ K r 0 = 15 ∧ ∃ a, a < n ∧ bt (a_table (32 * r * 24 + a)) i = true ∧ (i = a ∨ tr_a a_parents a i = true))) → post (nI n, f_innermost, f_draftLength, f_rulesGiven, f_wrongToken, f_wantedCount, f_inCondition, f_depth, f_cursor, f_outcome, f_outputCount, f_stepsTaken, a_names, a_values, a_parents, a_kinds, a_operands, a_priorities, a_givenAt, a_wanted, a_axes, a_passing, a_ends, a_openers, a_table, a_results, M, a_listLeft, a_listNode, a_listPosition, a_listSize, a_listBody, a_listReturn, a_outputs)) :
    ∀ d r f M, r + d = 6 → d < f → (∀ j, j < r → ∀ i, i < n → (bt (M j) i = true ↔ K j 0 = 15 ∧ ∃ a, a < n ∧ bt (a_table (32 * j * 24 + a)) i = true ∧ (i = a ∨ tr_a a_parents a i = true))) → wX_matchRules_2 post (nI n) f_innermost f_draftLength f_rulesGiven f_wrongToken f_wantedCount f_inCondition f_depth f_cursor f_outcome f_outputCount f_stepsTaken f (nI r) a_names a_values a_parents a_kinds a_operands a_priorities a_givenAt a_wanted a_axes a_passing a_ends a_openers a_table a_results M a_listLeft a_listNode a_listPosition a_listSize a_listBody a_listReturn a_outputs := by
  intro d
  induction d with
  | zero =>
    intro r f M hr hf h
    obtain ⟨f, rfl⟩ : ∃ x, f = x + 1 := ⟨f - 1, by omega⟩
    have e : r = 6 := by omega
    subst e
    exact br_t (by decide) (hp M h)
  | succ d ih =>
    intro r f M hr hf h
    obtain ⟨f, rfl⟩ : ∃ x, f = x + 1 := ⟨f - 1, by omega⟩
    have e : nI r * 32 = nI (32 * r) := by rw [show (32 : Int32) = nI 32 from rfl, pk_mul, Nat.mul_comm]
    refine br_f (nI_ge (b := 6) (by omega) (by decide)) (nm_r e ⟨vp_in_nI (by omega) (by omega), nm_r (e' := upd M r 0) (by rw [nI_clamp (by omega)]) ⟨n + 1, xo_m22 (a_matched := upd M r 0) hn (by omega) hA (hk r (by omega)).1 (hk r (by omega)).2 (fun M' fr h' => ih (r + 1) f M' (by omega) (by omega) fun j hj => ?_) n 0 (n + 1) _ (by omega) (by omega) (fun _ _ => rfl) fun i hi => ?_⟩⟩)
    · rcases Nat.lt_or_ge j r with z | z
      · rw [fr j (by omega), pk_un (by omega)]; exact h j z
      · have : j = r := by omega
        rw [this]; exact h'
    · rw [pk_us, b_0]
      exact ⟨fun z => (nomatch z), fun ⟨_, b, b1, _⟩ => absurd b1 (by omega)⟩
theorem xo_match {post : SX → Prop} {K : Nat → Nat → Nat} {n : Nat} (hn : n ≤ 24) (hA : xs_ax a_axes a_parents n) (hk : ∀ r, r < 6 → a_kinds (32 * r) = nI (K r 0) ∧ K r 0 ≤ 27)
    (hp : ∀ M : Nat → Int32, (∀ r, r < 6 → ∀ i, i < n → (bt (M r) i = true ↔ K r 0 = 15 ∧ ∃ a, a < n ∧ bt (a_table (32 * r * 24 + a)) i = true ∧ (i = a ∨ tr_a a_parents a i = true))) → post (nI n, f_innermost, f_draftLength, f_rulesGiven, f_wrongToken, f_wantedCount, f_inCondition, f_depth, f_cursor, f_outcome, f_outputCount, f_stepsTaken, a_names, a_values, a_parents, a_kinds, a_operands, a_priorities, a_givenAt, a_wanted, a_axes, a_passing, a_ends, a_openers, a_table, a_results, M, a_listLeft, a_listNode, a_listPosition, a_listSize, a_listBody, a_listReturn, a_outputs)) : wpX_matchRules post (nI n, f_innermost, f_draftLength, f_rulesGiven, f_wrongToken, f_wantedCount, f_inCondition, f_depth, f_cursor, f_outcome, f_outputCount, f_stepsTaken, a_names, a_values, a_parents, a_kinds, a_operands, a_priorities, a_givenAt, a_wanted, a_axes, a_passing, a_ends, a_openers, a_table, a_results, a_matched, a_listLeft, a_listNode, a_listPosition, a_listSize, a_listBody, a_listReturn, a_outputs) :=
  ⟨7, xo_m2 hn hA hk hp 6 0 7 a_matched rfl (by omega) (fun j hj => absurd hj (by omega))⟩
theorem xo_best_l {post : Int32 → Prop} {m : Nat} (hm : m < 24) : ∀ d r f b, r + d = 6 → d < f → (∀ y, b = some y → y < 6) → post (bs_i (bs (fun r => bt (a_matched r) m) a_priorities a_givenAt d r b)) → wX_bestRule_4 post (nI m) f_nodeCount f_innermost f_draftLength f_rulesGiven f_wrongToken f_wantedCount f_inCondition f_depth f_cursor f_outcome f_outputCount f_stepsTaken a_names a_values a_parents a_kinds a_operands a_priorities a_givenAt a_wanted a_axes a_passing a_ends a_openers a_table a_results a_matched a_listLeft a_listNode a_listPosition a_listSize a_listBody a_listReturn a_outputs f (bs_i b) (nI r) := by
  intro d
  induction d with
  | zero =>
    intro r f b hr hf hb hp
    obtain ⟨f, rfl⟩ : ∃ x, f = x + 1 := ⟨f - 1, by omega⟩
    have e : r = 6 := by omega
    subst e
    exact br_t (by decide) hp
  | succ d ih =>
    intro r f b hr hf hb hp
    obtain ⟨f, rfl⟩ : ∃ x, f = x + 1 := ⟨f - 1, by omega⟩
    have cr : (nI r).toNatClampNeg = r := nI_clamp (by omega)
    have vr : vp_in (nI r) 6 := vp_in_nI (by omega) (by omega)
    rw [bs] at hp
    refine br_f (nI_ge (b := 6) (by omega) (by decide)) ⟨vr, ?_⟩
    rw [cr]
    cases hbt : bt (a_matched r) m
    · refine br_t (ms_f (by omega) hbt) (nm_r (nI_1 r) (ih (r + 1) f b (by omega) (by omega) hb ?_))
      rw [if_neg (fun z => by rw [hbt] at z; exact nomatch z.1)] at hp
      exact hp
    · refine br_f (ms_t (by omega) hbt) ?_
      cases b with
      | none =>
        refine br_t (by decide) (nm_r (nI_1 r) (ih (r + 1) f (some r) (by omega) (by omega) (fun y hy => by cases hy; omega) ?_))
        rw [if_pos ⟨hbt, rfl⟩] at hp
        exact hp
      | some x =>
        have hx := hb x rfl
        have cx : (bs_i (some x)).toNatClampNeg = x := nI_clamp (n := x) (by omega)
        have vx : vp_in (nI x) 6 := vp_in_nI hx (by omega)
        have yes : (a_priorities x < a_priorities r ∨ (a_priorities r = a_priorities x ∧ ¬ a_givenAt r ≤ a_givenAt x)) → ∀ x3, x3 = nI r + 1 → wX_bestRule_4 post (nI m) f_nodeCount f_innermost f_draftLength f_rulesGiven f_wrongToken f_wantedCount f_inCondition f_depth f_cursor f_outcome f_outputCount f_stepsTaken a_names a_values a_parents a_kinds a_operands a_priorities a_givenAt a_wanted a_axes a_passing a_ends a_openers a_table a_results a_matched a_listLeft a_listNode a_listPosition a_listSize a_listBody a_listReturn a_outputs f (nI r) x3 := fun q => nm_r (nI_1 r) (ih (r + 1) f (some r) (by omega) (by omega) (fun y hy => by cases hy; omega) (by rw [if_pos ⟨hbt, decide_eq_true q⟩] at hp; exact hp))
        have no : ¬ (a_priorities x < a_priorities r ∨ (a_priorities r = a_priorities x ∧ ¬ a_givenAt r ≤ a_givenAt x)) → ∀ x3, x3 = nI r + 1 → wX_bestRule_4 post (nI m) f_nodeCount f_innermost f_draftLength f_rulesGiven f_wrongToken f_wantedCount f_inCondition f_depth f_cursor f_outcome f_outputCount f_stepsTaken a_names a_values a_parents a_kinds a_operands a_priorities a_givenAt a_wanted a_axes a_passing a_ends a_openers a_table a_results a_matched a_listLeft a_listNode a_listPosition a_listSize a_listBody a_listReturn a_outputs f (nI x) x3 := fun q => nm_r (nI_1 r) (ih (r + 1) f (some x) (by omega) (by omega) hb (by rw [if_neg (fun z => q (of_decide_eq_true z.2))] at hp; exact hp))
        refine br_f (nI_pos (by omega)) ⟨vr, vx, ?_⟩
        rw [cr, cx]
        refine br_c (fun q => ⟨vr, vx, br_c (fun q2 => br_t rfl (no ?_)) (fun q2 => br_f (by decide) (yes (Or.inr ⟨q, q2⟩)))⟩) (fun q => ⟨vr, vx, br_c (fun q2 => br_t rfl (no ?_)) (fun q2 => br_f (by decide) (yes (Or.inl (Int32.not_le.mp q2))))⟩)
        · rintro (z | z)
          · rw [q] at z; exact Int32.lt_irrefl z
          · exact z.2 q2
        · rintro (z | z)
          · exact Int32.not_lt.mpr q2 z
          · exact q z.1
theorem xo_best {post : Int32 → Prop} {m : Nat} (hm : m < 24) (hp : post (bs_i (bs (fun r => bt (a_matched r) m) a_priorities a_givenAt 6 0 none))) : wpX_bestRule post (f_nodeCount, f_innermost, f_draftLength, f_rulesGiven, f_wrongToken, f_wantedCount, f_inCondition, f_depth, f_cursor, f_outcome, f_outputCount, f_stepsTaken, a_names, a_values, a_parents, a_kinds, a_operands, a_priorities, a_givenAt, a_wanted, a_axes, a_passing, a_ends, a_openers, a_table, a_results, a_matched, a_listLeft, a_listNode, a_listPosition, a_listSize, a_listBody, a_listReturn, a_outputs) (nI m) :=
  ⟨7, xo_best_l hm 6 0 7 none rfl (by omega) (fun y hy => nomatch hy) hp⟩
end
