/-! stacks in arrays; the reference's wants and the class's -/
def sk (w : Nat → Int32) : List Nat → Prop
  | [] => True
  | x :: s => w s.length = nI x ∧ sk w s
theorem sk_u {w : Nat → Int32} {k : Nat} {x : Int32} : ∀ {s : List Nat}, s.length ≤ k → sk w s → sk (upd w k x) s
  | [], _, _ => trivial
  | a :: s, h, ⟨h1, h2⟩ => by
    have hl : s.length < k := h
    exact ⟨by rw [pk_un (by omega)]; exact h1, sk_u (by omega) h2⟩
theorem sk_p {w : Nat → Int32} {s : List Nat} {x : Nat} (h : sk w s) : sk (upd w s.length (nI x)) (x :: s) := ⟨pk_us, sk_u (Nat.le_refl _) h⟩
/-- a want of the reference as the class holds it, the top first -/
def sk_ph (c : Nat) : List Nat := if c = 0 then [4] else if c = 1 then [4, 5] else if c = 2 ∨ c = 5 then [0] else if c = 3 ∨ c = 6 then [1] else if c = 4 ∨ c = 7 then [2] else [3]
def sk_fl (b : List Nat) : List Nat → List Nat
  | [] => b
  | c :: s => sk_ph c ++ sk_fl b s
theorem sk_phl (c : Nat) : (sk_ph c).length ≤ 2 := by
  unfold sk_ph
  repeat' split
  all_goals decide
theorem sk_fll (b : List Nat) : ∀ s, (sk_fl b s).length ≤ b.length + 2 * s.length
  | [] => Nat.le_refl _
  | c :: s => by
    have := sk_fll b s
    have := sk_phl c
    simp only [sk_fl, List.length_append, List.length_cons]
    omega
def sk_out (z : Bool) : List Nat → Prop
  | [] => True
  | x :: s => (x = 0 ∧ s = [] ∧ z = true) ∨ (1 ≤ x ∧ x ≤ 4 ∧ sk_out z s)
def sk_in (z : Bool) : List Nat → Prop
  | [] => False
  | x :: s => (x = 8 ∧ sk_out z s) ∨ (5 ≤ x ∧ x ≤ 7 ∧ sk_in z s)
/-- the shape of a stack of wants; the flag: within a condition -/
def sk_ok (z : Bool) (c : Bool) (s : List Nat) : Prop := match c with
  | false => sk_out z s
  | true => sk_in z s
theorem sk_st0 {z : Bool} {t : Nat} : ∀ {s s' : List Nat}, sk_out z s → gm_st t s = some s' → ∃ c', sk_ok z c' s' ∧ s'.length ≤ s.length + 2
  | [], _, _, h => nomatch h
  | x :: s, s', hs, h => by
    rcases hs with ⟨rfl, rfl, hz⟩ | ⟨h1, h2, hs⟩
    · rw [gm_stB _ _ _ (by omega)] at h
      repeat' split at h
      all_goals first | (cases h; exact ⟨false, by simp [sk_ok, sk_in, sk_out, hz], by simp only [List.length_cons]; omega⟩) | (cases h) | omega
    · rcases (show x = 1 ∨ x = 2 ∨ x = 3 ∨ x = 4 by omega) with rfl | rfl | rfl | rfl
      · rw [gm_stB _ _ _ (by omega)] at h
        repeat' split at h
        all_goals first | (cases h; exact ⟨false, by simp [sk_ok, sk_in, sk_out, hs], by simp only [List.length_cons]; omega⟩) | (cases h; exact ⟨false, hs, by simp only [List.length_cons]; omega⟩) | (cases h)
      · rw [gm_stN _ _ _ (by omega)] at h
        repeat' split at h
        all_goals first | (cases h; exact ⟨false, by simp [sk_ok, sk_in, sk_out, hs], by simp only [List.length_cons]; omega⟩) | (cases h; exact ⟨false, hs, by simp only [List.length_cons]; omega⟩) | (cases h)
      · rw [gm_stP _ _ _ (by omega)] at h
        repeat' split at h
        all_goals first | (cases h; exact ⟨false, by simp [sk_ok, sk_in, sk_out, hs], by simp only [List.length_cons]; omega⟩) | (cases h; exact ⟨false, hs, by simp only [List.length_cons]; omega⟩) | (cases h)
      · rw [gm_st4] at h
        by_cases k : t = 15
        · rw [if_pos k] at h
          cases h
          exact ⟨false, by simp [sk_ok, sk_in, sk_out, hs], by simp only [List.length_cons]; omega⟩
        rw [if_neg k] at h
        by_cases k6 : t = 16
        · rw [if_pos k6] at h
          cases h
          exact ⟨true, by simp [sk_ok, sk_in, sk_out, hs], by simp only [List.length_cons]; omega⟩
        rw [if_neg k6] at h
        obtain ⟨c', a, b⟩ := sk_st0 hs h
        exact ⟨c', a, by simp only [List.length_cons]; omega⟩
theorem sk_st1 {z : Bool} {t : Nat} : ∀ {s s' : List Nat}, sk_in z s → gm_st t s = some s' → ∃ c', sk_ok z c' s' ∧ s'.length ≤ s.length + 2
  | [], _, hs, _ => absurd hs id
  | x :: s, s', hs, h => by
    rcases hs with ⟨rfl, hs⟩ | ⟨h1, h2, hs⟩
    · rw [gm_st8] at h
      split at h
      · cases h
        exact ⟨false, hs, by simp only [List.length_cons]; omega⟩
      · exact nomatch h
    · rcases (show x = 5 ∨ x = 6 ∨ x = 7 by omega) with rfl | rfl | rfl
      · rw [gm_stN _ _ _ (by omega)] at h
        repeat' split at h
        all_goals first | (cases h; exact ⟨true, by simp [sk_ok, sk_in, hs], by simp only [List.length_cons]; omega⟩) | (cases h; exact ⟨true, hs, by simp only [List.length_cons]; omega⟩) | (cases h)
      · rw [gm_stP _ _ _ (by omega)] at h
        split at h
        · cases h
          exact ⟨true, by simp [sk_ok, sk_in, hs], by simp only [List.length_cons]; omega⟩
        · exact nomatch h
      · rw [gm_st7] at h
        by_cases k : t = 15
        · rw [if_pos k] at h
          cases h
          exact ⟨true, by simp [sk_ok, sk_in, hs], by simp only [List.length_cons]; omega⟩
        rw [if_neg k] at h
        obtain ⟨c', a, b⟩ := sk_st1 hs h
        exact ⟨c', a, by simp only [List.length_cons]; omega⟩
theorem sk_st {z c : Bool} {t : Nat} {s s' : List Nat} (hs : sk_ok z c s) (h : gm_st t s = some s') : ∃ c', sk_ok z c' s' ∧ s'.length ≤ s.length + 2 := by
  cases c
  · exact sk_st0 hs h
  · exact sk_st1 hs h
