/-! masks by their bits, and lists of nodes in either direction -/
theorem ms_1 : ∀ n, n < 32 → ∀ i, i < 32 → bt ((1 : Int32) <<< (nI n &&& 31)) i = decide (i = n) := by decide +kernel
theorem ms_one : ∀ i, i < 32 → bt 1 i = decide (i = 0) := by decide +kernel
theorem ms_tst (x : Int32) {n : Nat} (hn : n < 32) : (x >>> (nI n &&& 31)) &&& 1 = if bt x n = true then 1 else 0 := by
  apply b_ext
  intro i hi
  rw [b_and, b_sshr n hn x hi, ms_one i hi]
  by_cases h0 : i = 0
  · subst h0
    rw [if_pos (show n + 0 < 32 by omega), Nat.add_zero]
    cases h : bt x n
    · rw [if_neg (by decide)]; decide
    · rw [if_pos rfl]; decide
  · rw [decide_eq_false h0, Bool.and_false]
    cases bt x n
    · rw [if_neg (by decide), b_0]
    · rw [if_pos rfl, ms_one i hi, decide_eq_false h0]
theorem ms_t {x : Int32} {n : Nat} (hn : n < 32) (h : bt x n = true) : ¬ (x >>> (nI n &&& 31)) &&& 1 = 0 := by
  rw [ms_tst x hn, if_pos h]; decide
theorem ms_f {x : Int32} {n : Nat} (hn : n < 32) (h : bt x n = false) : (x >>> (nI n &&& 31)) &&& 1 = 0 := by
  rw [ms_tst x hn, if_neg (by rw [h]; decide)]
theorem ms_not (x : Int32) {i : Nat} (hi : i < 32) : bt (x ^^^ (-1)) i = !bt x i := by
  rw [b_xor, b_m1 i hi]; cases bt x i <;> rfl
theorem ms_set (x : Int32) {n i : Nat} (hn : n < 32) (hi : i < 32) : bt (x ||| ((1 : Int32) <<< (nI n &&& 31))) i = (bt x i || decide (i = n)) := by
  rw [b_or, ms_1 n hn i hi]
/-- the nodes 0 .. n - 1 in the order of the document, or against it -/
def ls_T (back : Bool) (n : Nat) : List Nat := if back = true then (List.range n).reverse else List.range n
/-- those that g leaves, with the positions behind p -/
def ls_f (g : Nat → Nat → Bool) : Nat → List Nat → List Nat
  | _, [] => []
  | p, m :: L => if g m (p + 1) = true then m :: ls_f g (p + 1) L else ls_f g (p + 1) L
theorem ls_T24 : ∀ back : Bool, ∀ t, t < 24 → (ls_T back 24).drop t = (if back = true then 23 - t else t) :: (ls_T back 24).drop (t + 1) := by decide +kernel
theorem ls_T24n : ∀ back : Bool, (ls_T back 24).Nodup := by decide +kernel
theorem ls_Tm (back : Bool) (n m : Nat) : m ∈ ls_T back n ↔ m < n := by
  unfold ls_T
  cases back <;> simp
theorem ls_Tn {S : Nat → Bool} {n : Nat} (hS : ∀ m, S m = true → m < n) : ∀ d, (List.range (n + d)).filter S = (List.range n).filter S
  | 0 => rfl
  | d + 1 => by
    have e : n + (d + 1) = (n + d) + 1 := rfl
    rw [e, List.range_succ, List.filter_append, ls_Tn hS d]
    have : [n + d].filter S = [] := by
      rw [List.filter_eq_nil_iff]
      intro a ha
      have : a = n + d := by simpa using ha
      subst this
      intro h
      have := hS _ h
      omega
    rw [this, List.append_nil]
theorem ls_TS {S : Nat → Bool} {n : Nat} (hn : n ≤ 24) (hS : ∀ m, S m = true → m < n) (back : Bool) : (ls_T back 24).filter S = (ls_T back n).filter S := by
  have h := ls_Tn hS (24 - n)
  rw [show n + (24 - n) = 24 by omega] at h
  unfold ls_T
  cases back
  · exact h
  · simp only [if_true, List.filter_reverse]
    rw [h]
theorem ls_fm {g : Nat → Nat → Bool} {m : Nat} : ∀ {L : List Nat} {p : Nat}, m ∈ ls_f g p L → m ∈ L
  | [], _, h => h
  | a :: L, p, h => by
    rw [ls_f] at h
    by_cases hg : g a (p + 1) = true
    · rw [if_pos hg] at h
      rcases List.mem_cons.mp h with e | e
      · exact List.mem_cons.mpr (Or.inl e)
      · exact List.mem_cons.mpr (Or.inr (ls_fm e))
    · rw [if_neg hg] at h
      exact List.mem_cons.mpr (Or.inr (ls_fm h))
theorem ls_fl {g : Nat → Nat → Bool} : ∀ {L : List Nat} {p : Nat}, (ls_f g p L).length ≤ L.length
  | [], _ => Nat.le_refl _
  | a :: L, p => by
    rw [ls_f]
    have := ls_fl (g := g) (L := L) (p := p + 1)
    by_cases hg : g a (p + 1) = true
    · rw [if_pos hg]; simp only [List.length_cons]; omega
    · rw [if_neg hg]; simp only [List.length_cons]; omega
/-- what is left, found again among all by its members -/
theorem ls_back {g : Nat → Nat → Bool} {b : Nat → Bool} : ∀ (T : List Nat) (p : Nat), T.Nodup → T.filter (fun m => decide (m ∈ ls_f g p (T.filter b))) = ls_f g p (T.filter b)
  | [], _, _ => rfl
  | a :: T, p, h => by
    obtain ⟨ha, hT⟩ := List.nodup_cons.mp h
    have na : ∀ q, a ∉ ls_f g q (T.filter b) := fun q z => ha (List.mem_filter.mp (ls_fm z)).1
    by_cases hb : b a = true
    · have e : (a :: T).filter b = a :: T.filter b := List.filter_cons_of_pos hb
      rw [e, ls_f]
      by_cases hg : g a (p + 1) = true
      · rw [if_pos hg, List.filter_cons_of_pos (by simp)]
        refine congrArg (List.cons a) (Eq.trans (List.filter_congr ?_) (ls_back T (p + 1) hT))
        intro m hm
        have ne : m ≠ a := fun z => ha (z ▸ hm)
        simp [ne]
      · rw [if_neg hg, List.filter_cons_of_neg (by simpa using na (p + 1))]
        exact ls_back T (p + 1) hT
    · have e : (a :: T).filter b = T.filter b := List.filter_cons_of_neg hb
      rw [e, List.filter_cons_of_neg (by simpa using na p)]
      exact ls_back T p hT
/-- a mask of nodes below 24, and its nodes in a direction -/
def ls_of (back : Bool) (x : Int32) : List Nat := (ls_T back 24).filter (bt x)
theorem ls_ofm {back : Bool} {x : Int32} {m : Nat} : m ∈ ls_of back x ↔ m < 24 ∧ bt x m = true := by
  unfold ls_of
  rw [List.mem_filter, ls_Tm]
theorem ls_next {g : Nat → Nat → Bool} {back : Bool} {x y : Int32} (h : ∀ i, i < 32 → (bt y i = true ↔ i ∈ ls_f g 0 (ls_of back x))) : ls_of back y = ls_f g 0 (ls_of back x) := by
  have a := ls_back (g := g) (b := bt x) (ls_T back 24) 0 (ls_T24n back)
  unfold ls_of at h ⊢
  refine Eq.trans (List.filter_congr ?_) a
  intro m hm
  have hm' := (ls_Tm back 24 m).mp hm
  have := h m (by omega)
  cases hy : bt y m
  · rw [hy] at this
    exact (decide_eq_false (fun z => nomatch this.mpr z)).symm
  · exact (decide_eq_true (this.mp hy)).symm
