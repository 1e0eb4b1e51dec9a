/-! COUNT, SUM, FIRST of a mask, from either end; the lowest bit -/
def me_t (V : Nat → Int32) (t : Nat) (x : Int32) : Nat → Int32 → Int32
  | 0, acc => acc
  | k + 1, acc => me_t V t x k (if bt x k = true then (if t = 4 then acc + 1 else if t = 5 then acc + V k else V k) else acc)
theorem me_t4 (V : Nat → Int32) (x : Int32) : ∀ k acc, me_t V 4 x k acc = acc + nI (nu_cnt x k)
  | 0, acc => by rw [me_t, nu_cnt, nI_0, Int32.add_zero]
  | k + 1, acc => by
    rw [me_t, me_t4 V x k, nu_cnt]
    by_cases h : bt x k = true
    · rw [if_pos h, if_pos h, if_pos rfl, ← nI_1, Int32.add_assoc, Int32.add_comm 1]
    · rw [if_neg h, if_neg h]; rfl
theorem me_t5 (V : Nat → Int32) (x : Int32) : ∀ k acc, me_t V 5 x k acc = acc + nu_sum V x k
  | 0, acc => by rw [me_t, nu_sum, Int32.add_zero]
  | k + 1, acc => by
    rw [me_t, me_t5 V x k, nu_sum]
    by_cases h : bt x k = true
    · rw [if_pos h, if_pos h, if_neg (by decide), if_pos rfl, Int32.add_assoc, Int32.add_comm (V k)]
    · rw [if_neg h, if_neg h, Int32.add_zero]
theorem me_f0 (V : Nat → Int32) (x : Int32) : ∀ k, nu_cnt x k = 0 → nu_fst V x k = 0
  | 0, _ => rfl
  | k + 1, h => by
    rw [nu_cnt] at h
    by_cases b : bt x k = true
    · rw [if_pos b] at h; omega
    · rw [nu_fst, if_pos (by omega), if_neg b]
theorem me_t6 (V : Nat → Int32) (x : Int32) {t : Nat} (h4 : t ≠ 4) (h5 : t ≠ 5) : ∀ k acc, me_t V t x k acc = if nu_cnt x k = 0 then acc else nu_fst V x k
  | 0, acc => by rw [me_t, nu_cnt, if_pos rfl]
  | k + 1, acc => by
    rw [me_t, me_t6 V x h4 h5 k, nu_cnt, nu_fst]
    by_cases b : bt x k = true
    · rw [if_pos b, if_neg h4, if_neg h5, if_pos b, if_neg (show ¬ nu_cnt x k + 1 = 0 by omega), if_pos b]
    · rw [if_neg b, if_neg b, Nat.add_zero]
      by_cases c : nu_cnt x k = 0
      · rw [if_pos c, if_pos c]
      · rw [if_neg c, if_neg c, if_neg c]
theorem me_m (V : Nat → Int32) (x : Int32) (t n : Nat) : me_t V t x n 0 = nu_m V n t x := by
  unfold nu_m
  by_cases h4 : t = 4
  · rw [if_pos h4, h4, me_t4, Int32.zero_add]
  · by_cases h5 : t = 5
    · rw [if_neg h4, if_pos h5, h5, me_t5, Int32.zero_add]
    · rw [if_neg h4, if_neg h5, me_t6 V x h4 h5]
      by_cases c : nu_cnt x n = 0
      · rw [if_pos c, me_f0 V x n c]
      · rw [if_neg c]
theorem me_hi {x : Int32} {n : Nat} (h : ∀ i, i < 32 → bt x i = true → i < n) : ∀ d, n + d ≤ 32 → nu_cnt x (n + d) = nu_cnt x n
  | 0, _ => rfl
  | d + 1, hd => by
    show nu_cnt x (n + d + 1) = _
    rw [nu_cnt, me_hi h d (by omega), if_neg, Nat.add_zero]
    intro z
    have := h (n + d) (by omega) z
    omega
theorem me_24 {x : Int32} {n : Nat} (hn : n ≤ 24) (h : ∀ i, i < 32 → bt x i = true → i < n) : nu_cnt x 24 = nu_cnt x n := by
  have := me_hi h (24 - n) (by omega)
  rwa [show n + (24 - n) = 24 by omega] at this
/-- f is the lowest bit of x -/
def me_low (x : Int32) (f : Nat) : Prop := f < 24 ∧ bt x f = true ∧ ∀ i, i < f → bt x i = false
theorem me_ex {x : Int32} {n : Nat} (hn : n ≤ 24) (h : ∀ i, i < 32 → bt x i = true → i < n) (h0 : x ≠ 0) : ∃ f, f < n ∧ me_low x f := by
  have e : ∃ k, bt x k = true ∧ k < 32 := by
    refine Classical.byContradiction fun z => h0 (b_ext fun i hi => ?_)
    rw [b_0]
    cases hb : bt x i
    · rfl
    · exact absurd ⟨i, hb, hi⟩ z
  obtain ⟨k, ⟨k1, k2⟩, kl⟩ := pk_least (fun k => bt x k = true ∧ k < 32) e
  have := h k k2 k1
  refine ⟨k, this, by omega, k1, fun i hi => ?_⟩
  cases hb : bt x i
  · rfl
  · exact absurd ⟨hb, by omega⟩ (kl i hi)
theorem me_c0 {x : Int32} {f : Nat} (h : ∀ i, i < f → bt x i = false) : ∀ k, k ≤ f → nu_cnt x k = 0
  | 0, _ => rfl
  | k + 1, hk => by rw [nu_cnt, me_c0 h k (by omega), h k (by omega)]; rfl
theorem me_fst {V : Nat → Int32} {x : Int32} {f : Nat} (h : me_low x f) : ∀ n, f < n → nu_fst V x n = V f ∧ nu_cnt x n ≠ 0
  | 0, hn => absurd hn (by omega)
  | n + 1, hn => by
    rw [nu_fst, nu_cnt]
    rcases Nat.eq_or_lt_of_le (Nat.le_of_lt_succ hn) with e | e
    · subst e
      rw [if_pos (me_c0 h.2.2 f (Nat.le_refl _)), if_pos h.2.1, if_pos h.2.1]
      exact ⟨rfl, by omega⟩
    · have a := me_fst (V := V) h n e
      rw [if_neg a.2]
      exact ⟨a.1, by omega⟩
/-- taking the lowest bit away, in two ways -/
theorem me_less {x : Int32} {f : Nat} (h : me_low x f) : x &&& (x - 1) = x &&& (((1 : Int32) <<< (nI f &&& 31)) ^^^ (-1)) := by
  have hf := h.1
  have eb : ((1 : Int32) <<< (nI f &&& 31)).toBitVec = BitVec.twoPow 32 f := (by decide +kernel : ∀ l, l < 32 → ((1 : Int32) <<< (nI l &&& 31)).toBitVec = BitVec.twoPow 32 l) f (by omega)
  have em : (1 : Int32).toBitVec = 1#32 := rfl
  have key : ∀ (X H : BitVec 32), X = H + BitVec.twoPow 32 f → X - 1#32 = H + (BitVec.twoPow 32 f - 1#32) := by
    intro X H e
    rw [e]
    simp only [BitVec.sub_eq_add_neg, BitVec.add_assoc]
  have low : ∀ i, i < 32 → ∀ f, f < 32 → (BitVec.twoPow 32 f - 1#32).getLsbD i = decide (i < f) := by decide +kernel
  have tw : ∀ i, i < 32 → (BitVec.twoPow 32 f).getLsbD i = decide (i = f) := by
    intro i hi
    have := ms_1 f (by omega) i hi
    unfold bt at this
    rw [eb] at this
    exact this
  have hb : ∀ i, x.toBitVec.getLsbD i = bt x i := fun _ => rfl
  -- the other bits
  have H1 : x.toBitVec = (x &&& (((1 : Int32) <<< (nI f &&& 31)) ^^^ (-1))).toBitVec + BitVec.twoPow 32 f := by
    rw [BitVec.add_eq_or_of_and_eq_zero]
    · apply BitVec.eq_of_getLsbD_eq
      intro i hi
      rw [BitVec.getLsbD_or, tw i hi, hb i]
      show bt x i = (bt (x &&& (((1 : Int32) <<< (nI f &&& 31)) ^^^ (-1))) i || decide (i = f))
      rw [b_and, ms_not _ hi, ms_1 f (by omega) i hi]
      by_cases z : i = f
      · subst z; rw [h.2.1]; simp
      · simp [z]
    · apply BitVec.eq_of_getLsbD_eq
      intro i hi
      rw [BitVec.getLsbD_and, tw i hi]
      show (bt (x &&& (((1 : Int32) <<< (nI f &&& 31)) ^^^ (-1))) i && decide (i = f)) = (0#32).getLsbD i
      rw [b_and, ms_not _ hi, ms_1 f (by omega) i hi]
      by_cases z : i = f
      · simp [z]
      · simp [z]
  have H2 := key _ _ H1
  have H3 : ((x &&& (((1 : Int32) <<< (nI f &&& 31)) ^^^ (-1))).toBitVec + (BitVec.twoPow 32 f - 1#32)) = ((x &&& (((1 : Int32) <<< (nI f &&& 31)) ^^^ (-1))).toBitVec ||| (BitVec.twoPow 32 f - 1#32)) := by
    rw [BitVec.add_eq_or_of_and_eq_zero]
    apply BitVec.eq_of_getLsbD_eq
    intro i hi
    rw [BitVec.getLsbD_and, low i hi f (by omega)]
    show (bt (x &&& (((1 : Int32) <<< (nI f &&& 31)) ^^^ (-1))) i && decide (i < f)) = (0#32).getLsbD i
    rw [b_and]
    by_cases z : i < f
    · rw [h.2.2 i z]; simp
    · simp [z]
  apply b_ext
  intro i hi
  rw [b_and]
  have B : bt (x - 1) i = (bt (x &&& (((1 : Int32) <<< (nI f &&& 31)) ^^^ (-1))) i || decide (i < f)) := by
    show (x - 1).toBitVec.getLsbD i = _
    rw [Int32.toBitVec_sub, em, H2, H3, BitVec.getLsbD_or, low i hi f (by omega)]
    rfl
  rw [B, b_and, ms_not _ hi, ms_1 f (by omega) i hi]
  by_cases z : i < f
  · rw [h.2.2 i z]; simp
  · cases bt x i <;> simp [z]
