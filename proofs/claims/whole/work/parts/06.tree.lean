/-! the document: ancestors, axes -/
/-- a is a proper ancestor of m -/
def tr_ab (P : Nat → Int32) : Nat → Nat → Nat → Bool
  | 0, _, _ => false
  | f + 1, a, m => if P m < 0 then false else if (P m).toNatClampNeg = a then true else tr_ab P f a (P m).toNatClampNeg
def tr_T (P : Nat → Int32) (n : Nat) : Prop := n ≤ 24 ∧ ∀ i, i < n → (i = 0 ∧ P i = -1) ∨ (0 < i ∧ ∃ p, p < i ∧ P i = nI p)
theorem tr_m1 : ((-1 : Int32) < 0) := by decide
theorem tr_root {P : Nat → Int32} {n m : Nat} (T : tr_T P n) (hm : m < n) (h : P m < 0) : m = 0 ∧ P m = -1 := by
  rcases T.2 m hm with z | ⟨_, p, hp, e⟩
  · exact z
  · rw [e] at h
    exact absurd h (nI_pos (by have := T.1; omega))
theorem tr_par {P : Nat → Int32} {n m : Nat} (T : tr_T P n) (hm : m < n) (h : ¬ P m < 0) : ∃ p, p < m ∧ P m = nI p := by
  rcases T.2 m hm with ⟨_, e⟩ | ⟨_, p, hp, e⟩
  · rw [e] at h
    exact absurd tr_m1 h
  · exact ⟨p, hp, e⟩
theorem tr_ab0 {P : Nat → Int32} {f a m : Nat} (h : P m < 0) : tr_ab P f a m = false := by
  cases f with
  | zero => rfl
  | succ f => rw [tr_ab, if_pos h]
theorem tr_abf {P : Nat → Int32} {n a : Nat} (T : tr_T P n) : ∀ f g m, m < n → m ≤ f → m ≤ g → tr_ab P f a m = tr_ab P g a m := by
  intro f
  induction f with
  | zero =>
    intro g m hm h1 _
    have e : m = 0 := by omega
    subst e
    have h : P 0 < 0 := by
      rcases T.2 0 hm with z | z
      · rw [z.2]; exact tr_m1
      · exact absurd z.1 (by omega)
    rw [tr_ab0 h, tr_ab0 h]
  | succ f ih =>
    intro g m hm h1 h2
    by_cases h : P m < 0
    · rw [tr_ab0 h, tr_ab0 h]
    · obtain ⟨p, hp, e⟩ := tr_par T hm h
      obtain ⟨g, rfl⟩ : ∃ x, g = x + 1 := ⟨g - 1, by omega⟩
      have c : (P m).toNatClampNeg = p := by rw [e]; exact nI_clamp (by have := T.1; omega)
      rw [tr_ab, tr_ab, c, ih g p (by omega) (by omega) (by omega)]
/-- proper ancestors, with fuel enough -/
def tr_a (P : Nat → Int32) (a m : Nat) : Bool := tr_ab P 24 a m
theorem tr_a0 {P : Nat → Int32} {a m : Nat} (h : P m < 0) : tr_a P a m = false := tr_ab0 h
theorem tr_as {P : Nat → Int32} {n a m p : Nat} (T : tr_T P n) (hm : m < n) (hp : p < m) (e : P m = nI p) : tr_a P a m = (decide (p = a) || tr_a P a p) := by
  have hn := T.1
  have h : ¬ P m < 0 := by rw [e]; exact nI_pos (by omega)
  have c : (P m).toNatClampNeg = p := by rw [e]; exact nI_clamp (by omega)
  show tr_ab P (23 + 1) a m = _
  rw [tr_ab, if_neg h, c, tr_abf T 23 24 p (by omega) (by omega) (by omega)]
  by_cases z : p = a
  · rw [if_pos z, decide_eq_true z, Bool.true_or]
  · rw [if_neg z, decide_eq_false z, Bool.false_or]; rfl
theorem tr_alt {P : Nat → Int32} {n a : Nat} (T : tr_T P n) : ∀ m, m < n → tr_a P a m = true → a < m := by
  intro m
  induction m using Nat.strongRecOn with
  | _ m ih =>
    intro hm h
    by_cases z : P m < 0
    · rw [tr_a0 z] at h; exact nomatch h
    · obtain ⟨p, hp, e⟩ := tr_par T hm z
      rw [tr_as T hm hp e, Bool.or_eq_true, decide_eq_true_eq] at h
      rcases h with h | h
      · omega
      · have := ih p hp (by omega) h; omega
/-- from above: a child of a is m or an ancestor of it -/
theorem tr_top {P : Nat → Int32} {n a : Nat} (T : tr_T P n) : ∀ m, m < n → tr_a P a m = true → ∃ c, c < n ∧ P c = nI a ∧ (m = c ∨ tr_a P c m = true) := by
  intro m
  induction m using Nat.strongRecOn with
  | _ m ih =>
    intro hm h
    by_cases z : P m < 0
    · rw [tr_a0 z] at h; exact nomatch h
    · obtain ⟨p, hp, e⟩ := tr_par T hm z
      rw [tr_as T hm hp e, Bool.or_eq_true, decide_eq_true_eq] at h
      rcases h with h | h
      · exact ⟨m, hm, by rw [e, h], Or.inl rfl⟩
      · obtain ⟨c, hc, ec, h2⟩ := ih p hp (by omega) h
        refine ⟨c, hc, ec, Or.inr ?_⟩
        rw [tr_as T hm hp e, Bool.or_eq_true, decide_eq_true_eq]
        exact h2
theorem tr_tr {P : Nat → Int32} {n a c : Nat} (T : tr_T P n) (hc : c < n) (ha : a < c) (e0 : P c = nI a) : ∀ m, m < n → (m = c ∨ tr_a P c m = true) → tr_a P a m = true := by
  intro m
  induction m using Nat.strongRecOn with
  | _ m ih =>
    intro hm h
    rcases h with rfl | h
    · rw [tr_as T hm ha e0, decide_eq_true rfl, Bool.true_or]
    · by_cases z : P m < 0
      · rw [tr_a0 z] at h; exact nomatch h
      · obtain ⟨p, hp, e⟩ := tr_par T hm z
        rw [tr_as T hm hp e, Bool.or_eq_true, decide_eq_true_eq] at h
        rw [tr_as T hm hp e, ih p hp (by omega) h, Bool.or_true]
/-- m is on the axis of a -/
def tr_on (P : Nat → Int32) (ax a m : Nat) : Bool :=
  if ax = 0 then decide (m = a)
  else if ax = 1 then decide (P m = nI a)
  else if ax = 2 then decide (P a = nI m)
  else if ax = 3 then tr_a P a m
  else if ax = 4 then tr_a P m a
  else if ax = 5 then decide (P m = P a) && decide (a < m)
  else if ax = 6 then decide (P m = P a) && decide (m < a)
  else if ax = 7 then decide (a < m) && !tr_a P a m
  else decide (m < a) && !tr_a P m a
theorem tr_on0 (P : Nat → Int32) (a m : Nat) : tr_on P 0 a m = decide (m = a) := by
  unfold tr_on
  rw [if_pos rfl]
theorem tr_on1 (P : Nat → Int32) (a m : Nat) : tr_on P 1 a m = decide (P m = nI a) := by
  unfold tr_on
  rw [if_neg (by decide), if_pos rfl]
theorem tr_on2 (P : Nat → Int32) (a m : Nat) : tr_on P 2 a m = decide (P a = nI m) := by
  unfold tr_on
  rw [if_neg (by decide), if_neg (by decide), if_pos rfl]
theorem tr_on3 (P : Nat → Int32) (a m : Nat) : tr_on P 3 a m = tr_a P a m := by
  unfold tr_on
  rw [if_neg (by decide), if_neg (by decide), if_neg (by decide), if_pos rfl]
theorem tr_on4 (P : Nat → Int32) (a m : Nat) : tr_on P 4 a m = tr_a P m a := by
  unfold tr_on
  rw [if_neg (by decide), if_neg (by decide), if_neg (by decide), if_neg (by decide), if_pos rfl]
theorem tr_on5 (P : Nat → Int32) (a m : Nat) : tr_on P 5 a m = (decide (P m = P a) && decide (a < m)) := by
  unfold tr_on
  rw [if_neg (by decide), if_neg (by decide), if_neg (by decide), if_neg (by decide), if_neg (by decide), if_pos rfl]
theorem tr_on6 (P : Nat → Int32) (a m : Nat) : tr_on P 6 a m = (decide (P m = P a) && decide (m < a)) := by
  unfold tr_on
  rw [if_neg (by decide), if_neg (by decide), if_neg (by decide), if_neg (by decide), if_neg (by decide), if_neg (by decide), if_pos rfl]
theorem tr_on7 (P : Nat → Int32) (a m : Nat) : tr_on P 7 a m = (decide (a < m) && !tr_a P a m) := by
  unfold tr_on
  rw [if_neg (by decide), if_neg (by decide), if_neg (by decide), if_neg (by decide), if_neg (by decide), if_neg (by decide), if_neg (by decide), if_pos rfl]
theorem tr_on8 (P : Nat → Int32) (a m : Nat) : tr_on P 8 a m = (decide (m < a) && !tr_a P m a) := by
  unfold tr_on
  rw [if_neg (by decide), if_neg (by decide), if_neg (by decide), if_neg (by decide), if_neg (by decide), if_neg (by decide), if_neg (by decide), if_neg (by decide)]
/-- m is on the axis and passes the test of a STEP's value v -/
def tr_s (P N : Nat → Int32) (v a m : Nat) : Bool := (decide (v % 8 = 6) || decide (N m = nI (v % 8))) && tr_on P (v / 8) a m
