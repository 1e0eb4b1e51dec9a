/-! the class: the axes, sideways; all of them -/
variable {f_nodeCount f_innermost f_draftLength f_rulesGiven f_wrongToken f_wantedCount f_inCondition f_depth f_cursor f_outcome f_outputCount f_stepsTaken : Int32} {a_names a_values a_parents a_kinds a_operands a_priorities a_givenAt a_wanted a_axes a_passing a_ends a_openers a_table a_results a_matched a_listLeft a_listNode a_listPosition a_listSize a_listBody a_listReturn a_outputs : Nat → Int32}
theorem xr_child {A P : Nat → Int32} {n : Nat} (T : tr_T P n) {c a : Nat} (hc : c < n) (ha : a < n) (e : P c = nI a) : a < c := by
  have hn := T.1
  rcases T.2 c hc with ⟨_, g⟩ | ⟨_, p', hp', g⟩
  · rw [g] at e
    exact absurd (e ▸ tr_m1) (nI_pos (by omega))
  · rw [g] at e
    have := (nI_eq (by omega) (by omega)).mp e
    omega
theorem xr_desc {A P : Nat → Int32} {n : Nat} (T : tr_T P n) (h : xr_2 A P n 0) {a m : Nat} (ha : a < n) (hm : m < 32) : bt (A (72 + a)) m = true ↔ m < n ∧ tr_a P a m = true := by
  obtain ⟨_, _, _, _, q5⟩ := h a ha m hm
  rw [q5]
  constructor
  · rintro ⟨x, c, _, c1, c2, c3⟩
    exact ⟨x, tr_tr T c1 (xr_child (A := A) T c1 ha c2) c2 m x c3⟩
  · rintro ⟨x, y⟩
    obtain ⟨c, c1, c2, c3⟩ := tr_top T m x y
    exact ⟨x, c, by omega, c1, c2, c3⟩
theorem xr_bool {x y : Bool} (h : x = true ↔ y = true) : x = y := by
  cases x <;> cases y <;> simp_all
def xr_4 (A P : Nat → Int32) (n a : Nat) : Prop := ∀ m, m < 32 → bt (A (120 + a)) m = (decide (m < n) && tr_on P 5 a m) ∧ bt (A (144 + a)) m = (decide (m < n) && tr_on P 6 a m) ∧ bt (A (168 + a)) m = (decide (m < n) && tr_on P 7 a m) ∧ bt (A (192 + a)) m = (decide (m < n) && tr_on P 8 a m)
theorem xr_side24 {post : SX → Prop} {n i : Nat} {z0 : Int32} (T : tr_T a_parents n) (hi : i < n) (hd : ∀ m, m < 32 → (bt (a_axes (72 + i)) m = true ↔ m < n ∧ tr_a a_parents i m = true)) (ha : ∀ m, m < 32 → bt (a_axes (96 + i)) m = tr_a a_parents m i) (hz : ∀ m, m < 32 → (bt z0 m = true ↔ m < n ∧ a_parents m = a_parents i ∧ ¬ a_parents i < 0)) (hps : xr_p a_passing a_names n)
    (hp : ∀ A : Nat → Int32, (∀ y, y ≠ 120 + i → y ≠ 144 + i → y ≠ 168 + i → y ≠ 192 + i → A y = a_axes y) → xr_4 A a_parents n i → post (f_nodeCount, f_innermost, f_draftLength, f_rulesGiven, f_wrongToken, f_wantedCount, f_inCondition, f_depth, f_cursor, f_outcome, f_outputCount, f_stepsTaken, a_names, a_values, a_parents, a_kinds, a_operands, a_priorities, a_givenAt, a_wanted, A, a_passing, a_ends, a_openers, a_table, a_results, a_matched, a_listLeft, a_listNode, a_listPosition, a_listSize, a_listBody, a_listReturn, a_outputs)) : wX_relateSideways_24 post (nI i) z0 f_nodeCount f_innermost f_draftLength f_rulesGiven f_wrongToken f_wantedCount f_inCondition f_depth f_cursor f_outcome f_outputCount f_stepsTaken a_names a_values a_parents a_kinds a_operands a_priorities a_givenAt a_wanted a_axes a_passing a_ends a_openers a_table a_results a_matched a_listLeft a_listNode a_listPosition a_listSize a_listBody a_listReturn a_outputs := by
  have hn := T.1
  have e120 : (120 : Int32) + nI i = nI (120 + i) := nI_add 120 i
  have e144 : (144 : Int32) + nI i = nI (144 + i) := nI_add 144 i
  have e168 : (168 : Int32) + nI i = nI (168 + i) := nI_add 168 i
  have e192 : (192 : Int32) + nI i = nI (192 + i) := nI_add 192 i
  have e72 : (72 : Int32) + nI i = nI (72 + i) := nI_add 72 i
  have e96 : (96 : Int32) + nI i = nI (96 + i) := nI_add 96 i
  intro x4 h4 x5 h5
  have b4 : ∀ m, m < 32 → bt x4 m = decide (m < i) := fun m hm => by rw [h4]; exact xr_lt1 i (by omega) m hm
  have b5 : ∀ m, m < 32 → (bt x5 m = true ↔ m < n ∧ i < m) := fun m hm => by
    rw [h5, b_and, b_and, ms_not _ hm, ms_not _ hm, b4 m hm, ms_1 i (by omega) m hm, hps 6 (by omega) m hm]
    simp only [decide_true, Bool.true_or, Bool.and_true, Bool.and_eq_true, Bool.not_eq_true', decide_eq_true_eq, decide_eq_false_iff_not]
    omega
  have root : a_parents i < 0 → ∀ m, m < n → a_parents m = a_parents i → m = 0 ∧ i = 0 := fun z m hm e => ⟨(tr_root T hm (e ▸ z)).1, (tr_root T hi z).1⟩
  refine ⟨by rw [e120]; exact vp_in_nI (by omega) (by omega), nm_r (e' := upd a_axes (120 + i) (z0 &&& x5)) (by rw [e120, nI_clamp (by omega)]) ⟨by rw [e144]; exact vp_in_nI (by omega) (by omega), nm_r (e' := upd (upd a_axes (120 + i) (z0 &&& x5)) (144 + i) (z0 &&& x4)) (by rw [e144, nI_clamp (by omega)]) ⟨by rw [e72]; exact vp_in_nI (by omega) (by omega), by rw [e168]; exact vp_in_nI (by omega) (by omega),
    nm_r (e' := upd (upd (upd a_axes (120 + i) (z0 &&& x5)) (144 + i) (z0 &&& x4)) (168 + i) (x5 &&& (a_axes (72 + i) ^^^ (-1)))) (by rw [e168, e72, nI_clamp (by omega), nI_clamp (by omega), pk_un (j := 72 + i) (by omega), pk_un (j := 72 + i) (by omega)]) ⟨by rw [e96]; exact vp_in_nI (by omega) (by omega), by rw [e192]; exact vp_in_nI (by omega) (by omega),
    nm_r (e' := upd (upd (upd (upd a_axes (120 + i) (z0 &&& x5)) (144 + i) (z0 &&& x4)) (168 + i) (x5 &&& (a_axes (72 + i) ^^^ (-1)))) (192 + i) (x4 &&& (a_axes (96 + i) ^^^ (-1)))) (by rw [e192, e96, nI_clamp (by omega), nI_clamp (by omega), pk_un (j := 96 + i) (by omega), pk_un (j := 96 + i) (by omega), pk_un (j := 96 + i) (by omega)]) (hp _ (fun y y1 y2 y3 y4 => by rw [pk_un y4, pk_un y3, pk_un y2, pk_un y1]) fun m hm => ⟨?_, ?_, ?_, ?_⟩)⟩⟩⟩⟩
  · rw [pk_un (by omega), pk_un (by omega), pk_un (by omega), pk_us, b_and]
    apply xr_bool
    rw [tr_on5]
    simp only [Bool.and_eq_true, decide_eq_true_eq, hz m hm, b5 m hm]
    constructor
    · rintro ⟨⟨x, y, _⟩, _, w⟩; exact ⟨x, y, w⟩
    · rintro ⟨x, y, w⟩
      refine ⟨⟨x, y, fun z => ?_⟩, x, w⟩
      have := root z m x y; omega
  · rw [pk_un (by omega), pk_un (by omega), pk_us, b_and]
    apply xr_bool
    rw [tr_on6]
    simp only [Bool.and_eq_true, decide_eq_true_eq, hz m hm, b4 m hm]
    constructor
    · rintro ⟨⟨x, y, _⟩, w⟩; exact ⟨x, y, w⟩
    · rintro ⟨x, y, w⟩
      refine ⟨⟨x, y, fun z => ?_⟩, w⟩
      have := root z m x y; omega
  · rw [pk_un (by omega), pk_us, b_and, ms_not _ hm]
    apply xr_bool
    rw [tr_on7]
    have d := hd m hm
    cases hb : bt (a_axes (72 + i)) m
    · rw [hb] at d
      simp only [Bool.and_eq_true, decide_eq_true_eq, b5 m hm, Bool.not_false, and_true]
      constructor
      · rintro ⟨x, y⟩
        refine ⟨x, y, ?_⟩
        cases ht : tr_a a_parents i m
        · rfl
        · exact absurd (d.mpr ⟨x, ht⟩) (by decide)
      · rintro ⟨x, y, _⟩; exact ⟨x, y⟩
    · rw [hb] at d
      have := d.mp rfl
      rw [this.2]
      simp
  · rw [pk_us, b_and, ms_not _ hm, b4 m hm, ha m hm]
    rw [tr_on8]
    by_cases z : m < i
    · rw [decide_eq_true z, decide_eq_true (show m < n by omega), Bool.true_and, Bool.true_and]
    · rw [decide_eq_false z, Bool.false_and, Bool.and_false]
theorem xr_side {post : SX → Prop} {n i : Nat} (T : tr_T a_parents n) (hi : i < n) (hd : ∀ m, m < 32 → (bt (a_axes (72 + i)) m = true ↔ m < n ∧ tr_a a_parents i m = true)) (ha : ∀ m, m < 32 → bt (a_axes (96 + i)) m = tr_a a_parents m i) (hc : ∀ a, a < n → ∀ m, m < 32 → (bt (a_axes (24 + a)) m = true ↔ m < n ∧ a_parents m = nI a)) (hps : xr_p a_passing a_names n)
    (hp : ∀ A : Nat → Int32, (∀ y, y ≠ 120 + i → y ≠ 144 + i → y ≠ 168 + i → y ≠ 192 + i → A y = a_axes y) → xr_4 A a_parents n i → post (f_nodeCount, f_innermost, f_draftLength, f_rulesGiven, f_wrongToken, f_wantedCount, f_inCondition, f_depth, f_cursor, f_outcome, f_outputCount, f_stepsTaken, a_names, a_values, a_parents, a_kinds, a_operands, a_priorities, a_givenAt, a_wanted, A, a_passing, a_ends, a_openers, a_table, a_results, a_matched, a_listLeft, a_listNode, a_listPosition, a_listSize, a_listBody, a_listReturn, a_outputs)) : wpX_relateSideways post (f_nodeCount, f_innermost, f_draftLength, f_rulesGiven, f_wrongToken, f_wantedCount, f_inCondition, f_depth, f_cursor, f_outcome, f_outputCount, f_stepsTaken, a_names, a_values, a_parents, a_kinds, a_operands, a_priorities, a_givenAt, a_wanted, a_axes, a_passing, a_ends, a_openers, a_table, a_results, a_matched, a_listLeft, a_listNode, a_listPosition, a_listSize, a_listBody, a_listReturn, a_outputs) (nI i) := by
  have hn := T.1
  refine ⟨vp_in_nI (by omega) (by omega), nm_r (e' := a_parents i) (by rw [nI_clamp (by omega)]) ?_⟩
  by_cases h : a_parents i < 0
  · refine br_f (Int32.not_le.mpr h) (xr_side24 T hi hd ha (fun m hm => ?_) hps hp)
    rw [b_0]
    exact ⟨fun z => (nomatch z), fun ⟨_, _, z⟩ => absurd h z⟩
  · obtain ⟨p, hpi, e⟩ := tr_par T hi h
    have e24 : (24 : Int32) + a_parents i = nI (24 + p) := by rw [e]; exact nI_add 24 p
    refine br_t (Int32.not_lt.mp h) ⟨by rw [e24]; exact vp_in_nI (by omega) (by omega), ?_⟩
    rw [e24, nI_clamp (by omega)]
    refine xr_side24 T hi hd ha (fun m hm => ?_) hps hp
    rw [hc p (by omega) m hm, e]
    exact ⟨fun ⟨x, y⟩ => ⟨x, y, nI_pos (by omega)⟩, fun ⟨x, y, _⟩ => ⟨x, y⟩⟩
theorem xr_l125 {post : SX → Prop} {n : Nat} (T : tr_T a_parents n) (hps : xr_p a_passing a_names n) (hp : ∀ A : Nat → Int32, xr_2 A a_parents n 0 → (∀ a, a < n → xr_4 A a_parents n a) → post (nI n, f_innermost, f_draftLength, f_rulesGiven, f_wrongToken, f_wantedCount, f_inCondition, f_depth, f_cursor, f_outcome, f_outputCount, f_stepsTaken, a_names, a_values, a_parents, a_kinds, a_operands, a_priorities, a_givenAt, a_wanted, A, a_passing, a_ends, a_openers, a_table, a_results, a_matched, a_listLeft, a_listNode, a_listPosition, a_listSize, a_listBody, a_listReturn, a_outputs)) :
    ∀ d i k A, i + d = n → d < k → xr_2 A a_parents n 0 → (∀ a, a < i → xr_4 A a_parents n a) → wX_relateNodes_125 post k (nI i) (nI n) f_innermost f_draftLength f_rulesGiven f_wrongToken f_wantedCount f_inCondition f_depth f_cursor f_outcome f_outputCount f_stepsTaken a_names a_values a_parents a_kinds a_operands a_priorities a_givenAt a_wanted A a_passing a_ends a_openers a_table a_results a_matched a_listLeft a_listNode a_listPosition a_listSize a_listBody a_listReturn a_outputs := by
  have hn := T.1
  intro d
  induction d with
  | zero =>
    intro i k A hi hk h2 h4
    obtain ⟨k, rfl⟩ : ∃ x, k = x + 1 := ⟨k - 1, by omega⟩
    have e : i = n := by omega
    subst e
    exact br_t (nI_le (Nat.le_refl _) (by omega)) (hp A h2 h4)
  | succ d ih =>
    intro i k A hi hk h2 h4
    obtain ⟨k, rfl⟩ : ∃ x, k = x + 1 := ⟨k - 1, by omega⟩
    refine br_f (nI_ge (by omega) (by omega)) (xr_side (a_axes := A) T (by omega) (fun m hm => xr_desc T h2 (by omega) hm) (fun m hm => (h2 i (by omega) m hm).2.2.1) (fun a ha m hm => (h2 a ha m hm).2.2.2.1.trans ⟨fun z => z.2, fun z => ⟨by omega, z⟩⟩) hps fun B fr h => nm_r (nI_1 i) (ih (i + 1) k B (by omega) (by omega) ?_ ?_))
    · intro a ha m hm
      rw [fr a (by omega) (by omega) (by omega) (by omega), fr (48 + a) (by omega) (by omega) (by omega) (by omega), fr (96 + a) (by omega) (by omega) (by omega) (by omega), fr (24 + a) (by omega) (by omega) (by omega) (by omega), fr (72 + a) (by omega) (by omega) (by omega) (by omega)]
      exact h2 a ha m hm
    · intro a ha
      rcases Nat.lt_or_ge a i with z | z
      · intro m hm
        rw [fr (120 + a) (by omega) (by omega) (by omega) (by omega), fr (144 + a) (by omega) (by omega) (by omega) (by omega), fr (168 + a) (by omega) (by omega) (by omega) (by omega), fr (192 + a) (by omega) (by omega) (by omega) (by omega)]
        exact h4 a z m hm
      · have : a = i := by omega
        rw [this]; exact h
theorem xr_fin {A P : Nat → Int32} {n : Nat} (T : tr_T P n) (h2 : xr_2 A P n 0) (h4 : ∀ a, a < n → xr_4 A P n a) : xs_ax A P n := by
  have hn := T.1
  intro ax a m hax ha hm
  obtain ⟨q0, q2, q4, q1, _⟩ := h2 a ha m hm
  have q3 := xr_desc T h2 ha hm
  obtain ⟨p5, p6, p7, p8⟩ := h4 a ha m hm
  rcases (show ax = 0 ∨ ax = 1 ∨ ax = 2 ∨ ax = 3 ∨ ax = 4 ∨ ax = 5 ∨ ax = 6 ∨ ax = 7 ∨ ax = 8 by omega) with rfl | rfl | rfl | rfl | rfl | rfl | rfl | rfl | rfl
  · rw [show 0 * 24 + a = a by omega, q0]
    rw [tr_on0]
    by_cases z : m = a
    · rw [decide_eq_true z, decide_eq_true (by omega), Bool.true_and]
    · rw [decide_eq_false z, Bool.and_false]
  · rw [show 1 * 24 + a = 24 + a by omega]
    apply xr_bool
    rw [tr_on1, q1, Bool.and_eq_true, decide_eq_true_eq, decide_eq_true_eq]
    exact ⟨fun z => z.2, fun z => ⟨by omega, z⟩⟩
  · rw [show 2 * 24 + a = 48 + a by omega, q2]
    rw [tr_on2]
    by_cases z : P a = nI m
    · have := xr_child (A := A) T (c := a) (a := m) ha
      have hmn : m < n := by
        rcases T.2 a ha with ⟨_, g⟩ | ⟨_, p', hp', g⟩
        · rw [g] at z
          exact absurd (z ▸ tr_m1) (nI_pos (by omega))
        · rw [g] at z
          have := (nI_eq (by omega) (by omega)).mp z
          omega
      rw [decide_eq_true z, decide_eq_true hmn]; rfl
    · rw [decide_eq_false z, Bool.and_false]
  · rw [show 3 * 24 + a = 72 + a by omega]
    apply xr_bool
    rw [tr_on3, q3, Bool.and_eq_true, decide_eq_true_eq]
  · rw [show 4 * 24 + a = 96 + a by omega, q4]
    rw [tr_on4]
    cases ht : tr_a P m a
    · rw [Bool.and_false]
    · have := tr_alt T a ha ht
      rw [decide_eq_true (by omega)]; rfl
  · rw [show 5 * 24 + a = 120 + a by omega]; exact p5
  · rw [show 6 * 24 + a = 144 + a by omega]; exact p6
  · rw [show 7 * 24 + a = 168 + a by omega]; exact p7
  · rw [show 8 * 24 + a = 192 + a by omega]; exact p8
