/-! the grammar, pure: a stack of wants (0 body at the bottom, 1 body that an END ends, 2/5 NUMBER, 3/6 PATH, 4/7 more of a path, 8 a closing bracket; 5, 6, 7 within a condition) -/
def gm_st (t : Nat) : List Nat → Option (List Nat)
  | [] => none
  | w :: s =>
    if w = 4 then (if t = 15 then some (4 :: s) else if t = 16 then some (5 :: 8 :: 4 :: s) else gm_st t s)
    else if w = 7 then (if t = 15 then some (7 :: s) else gm_st t s)
    else if w ≤ 1 then
      (if t = 20 then some (w :: s) else if t = 21 then some (1 :: w :: s) else if t = 22 then some (2 :: w :: s)
       else if t = 23 then some (3 :: w :: s) else if t = 24 then some (2 :: 1 :: w :: s) else if t = 25 then some (3 :: 1 :: w :: s)
       else if t = 26 ∧ w = 1 then some s else none)
    else if w = 2 ∨ w = 5 then
      (if t ≤ 3 then some s else if t ≤ 6 then some ((w + 1) :: s) else if t ≤ 13 then some (w :: w :: s) else if t = 14 then some (w :: s) else none)
    else if w = 3 ∨ w = 6 then (if t = 15 then some ((w + 1) :: s) else none)
    else if w = 8 then (if t = 17 then some s else none)
    else none
theorem gm_st4 (t : Nat) (s : List Nat) : gm_st t (4 :: s) = if t = 15 then some (4 :: s) else if t = 16 then some (5 :: 8 :: 4 :: s) else gm_st t s := by
  rw [gm_st, if_pos rfl]
theorem gm_st7 (t : Nat) (s : List Nat) : gm_st t (7 :: s) = if t = 15 then some (7 :: s) else gm_st t s := by
  rw [gm_st, if_neg (by decide), if_pos rfl]
theorem gm_stB (t w : Nat) (s : List Nat) (h : w ≤ 1) : gm_st t (w :: s) = if t = 20 then some (w :: s) else if t = 21 then some (1 :: w :: s) else if t = 22 then some (2 :: w :: s)
       else if t = 23 then some (3 :: w :: s) else if t = 24 then some (2 :: 1 :: w :: s) else if t = 25 then some (3 :: 1 :: w :: s)
       else if t = 26 ∧ w = 1 then some s else none := by
  rw [gm_st, if_neg (by omega), if_neg (by omega), if_pos h]
theorem gm_stN (t w : Nat) (s : List Nat) (h : w = 2 ∨ w = 5) : gm_st t (w :: s) = if t ≤ 3 then some s else if t ≤ 6 then some ((w + 1) :: s) else if t ≤ 13 then some (w :: w :: s) else if t = 14 then some (w :: s) else none := by
  rw [gm_st, if_neg (by omega), if_neg (by omega), if_neg (by omega), if_pos h]
theorem gm_stP (t w : Nat) (s : List Nat) (h : w = 3 ∨ w = 6) : gm_st t (w :: s) = if t = 15 then some ((w + 1) :: s) else none := by
  rw [gm_st, if_neg (by omega), if_neg (by omega), if_neg (by omega), if_neg (by omega), if_pos h]
theorem gm_st8 (t : Nat) (s : List Nat) : gm_st t (8 :: s) = if t = 17 then some s else none := by
  rw [gm_st, if_neg (by decide), if_neg (by decide), if_neg (by decide), if_neg (by decide), if_neg (by decide), if_pos rfl]
/-- d tokens from i on are taken, and what is left over may stay out -/
def gm_ac (K : Nat → Nat) : Nat → Nat → List Nat → Prop
  | 0, _, s => ∀ w, w ∈ s → w = 0 ∨ w = 4 ∨ w = 7
  | d + 1, i, s => ∃ s', gm_st (K i) s = some s' ∧ gm_ac K d (i + 1) s'
/-- where what begins at i ends: mode 0 a phrase, 1 a row of conditions, 2 a body with its END -/
def gm_en (K : Nat → Nat) : Nat → Nat → Nat → Nat
  | 0, _, i => i
  | f + 1, m, i =>
    if m = 1 then (if K i = 16 then gm_en K f 1 (gm_en K f 0 i) else i)
    else if m = 2 then (if K i = 26 then i + 1 else gm_en K f 2 (gm_en K f 0 i))
    else if K i = 4 ∨ K i = 5 ∨ K i = 6 ∨ K i = 14 ∨ K i = 22 ∨ K i = 23 then gm_en K f 0 (i + 1)
    else if 7 ≤ K i ∧ K i ≤ 13 then gm_en K f 0 (gm_en K f 0 (i + 1))
    else if K i = 16 then gm_en K f 0 (i + 1) + 1
    else if K i = 15 then (if K (gm_en K f 1 (i + 1)) = 15 then gm_en K f 0 (gm_en K f 1 (i + 1)) else gm_en K f 1 (i + 1))
    else if K i = 21 then gm_en K f 2 (i + 1)
    else if K i = 24 ∨ K i = 25 then gm_en K f 2 (gm_en K f 0 (i + 1))
    else i + 1
def gm_E0 (K : Nat → Nat) (i j : Nat) : Prop := ∀ f, 2 * j ≤ 2 * i + f → gm_en K f 0 i = j
def gm_E1 (K : Nat → Nat) (i j : Nat) : Prop := ∀ f, 2 * j + 1 ≤ 2 * i + f → gm_en K f 1 i = j
def gm_E2 (K : Nat → Nat) (i j : Nat) : Prop := ∀ f, 2 * j + 1 ≤ 2 * i + f → gm_en K f 2 i = j
abbrev gm_e (K : Nat → Nat) (c : Nat) : Nat := gm_en K 64 0 c
theorem gm_E0e {K : Nat → Nat} {i j : Nat} (h : gm_E0 K i j) (hj : j ≤ 32) : gm_e K i = j := h 64 (by omega)
theorem gm_fs {f i j : Nat} (h : 2 * j ≤ 2 * i + f) (hi : i < j) : ∃ g, f = g + 1 := ⟨f - 1, by omega⟩
theorem gm_E0_leaf {K : Nat → Nat} {i : Nat} (h : K i ≤ 3 ∨ K i = 17 ∨ K i = 20 ∨ 26 ≤ K i) : gm_E0 K i (i + 1) := by
  intro f hf
  obtain ⟨g, rfl⟩ := gm_fs hf (by omega)
  rw [gm_en, if_neg (by decide), if_neg (by decide), if_neg (by omega), if_neg (by omega), if_neg (by omega), if_neg (by omega), if_neg (by omega), if_neg (by omega)]
theorem gm_E0_one {K : Nat → Nat} {i j : Nat} (h : K i = 4 ∨ K i = 5 ∨ K i = 6 ∨ K i = 14 ∨ K i = 22 ∨ K i = 23) (hj : i + 1 < j) (E : gm_E0 K (i + 1) j) : gm_E0 K i j := by
  intro f hf
  obtain ⟨g, rfl⟩ := gm_fs hf (by omega)
  rw [gm_en, if_neg (by decide), if_neg (by decide), if_pos h]
  exact E g (by omega)
theorem gm_E0_two {K : Nat → Nat} {i j1 j : Nat} (h : 7 ≤ K i ∧ K i ≤ 13) (h1 : i + 1 < j1) (hj : j1 < j) (E : gm_E0 K (i + 1) j1) (F : gm_E0 K j1 j) : gm_E0 K i j := by
  intro f hf
  obtain ⟨g, rfl⟩ := gm_fs hf (by omega)
  rw [gm_en, if_neg (by decide), if_neg (by decide), if_neg (by omega), if_pos h, E g (by omega)]
  exact F g (by omega)
theorem gm_E0_open {K : Nat → Nat} {i j : Nat} (h : K i = 16) (hj : i + 1 < j) (E : gm_E0 K (i + 1) j) : gm_E0 K i (j + 1) := by
  intro f hf
  obtain ⟨g, rfl⟩ := gm_fs hf (by omega)
  rw [gm_en, if_neg (by decide), if_neg (by decide), if_neg (by omega), if_neg (by omega), if_pos h, E g (by omega)]
theorem gm_E0_step {K : Nat → Nat} {i q j : Nat} (h : K i = 15) (hq : i + 1 ≤ q) (hj : q ≤ j) (E : gm_E1 K (i + 1) q) (F : K q = 15 → gm_E0 K q j) (G : K q ≠ 15 → j = q) : gm_E0 K i j := by
  intro f hf
  obtain ⟨g, rfl⟩ := gm_fs hf (by omega)
  rw [gm_en, if_neg (by decide), if_neg (by decide), if_neg (by omega), if_neg (by omega), if_neg (by omega), if_pos h, E g (by omega)]
  by_cases hk : K q = 15
  · rw [if_pos hk]; exact F hk g (by omega)
  · rw [if_neg hk]; exact (G hk).symm
theorem gm_E0_el {K : Nat → Nat} {i j : Nat} (h : K i = 21) (hj : i + 1 < j) (E : gm_E2 K (i + 1) j) : gm_E0 K i j := by
  intro f hf
  obtain ⟨g, rfl⟩ := gm_fs hf (by omega)
  rw [gm_en, if_neg (by decide), if_neg (by decide), if_neg (by omega), if_neg (by omega), if_neg (by omega), if_neg (by omega), if_pos h]
  exact E g (by omega)
theorem gm_E0_if {K : Nat → Nat} {i j1 j : Nat} (h : K i = 24 ∨ K i = 25) (h1 : i + 1 < j1) (hj : j1 < j) (E : gm_E0 K (i + 1) j1) (F : gm_E2 K j1 j) : gm_E0 K i j := by
  intro f hf
  obtain ⟨g, rfl⟩ := gm_fs hf (by omega)
  rw [gm_en, if_neg (by decide), if_neg (by decide), if_neg (by omega), if_neg (by omega), if_neg (by omega), if_neg (by omega), if_neg (by omega), if_pos h, E g (by omega)]
  exact F g (by omega)
theorem gm_E1_0 {K : Nat → Nat} {i : Nat} (h : K i ≠ 16) : gm_E1 K i i := by
  intro f hf
  obtain ⟨g, rfl⟩ : ∃ g, f = g + 1 := ⟨f - 1, by omega⟩
  rw [gm_en, if_pos rfl, if_neg h]
theorem gm_E1_s {K : Nat → Nat} {i j q : Nat} (h : K i = 16) (hj : i < j) (hq : j ≤ q) (E : gm_E0 K i j) (F : gm_E1 K j q) : gm_E1 K i q := by
  intro f hf
  obtain ⟨g, rfl⟩ : ∃ g, f = g + 1 := ⟨f - 1, by omega⟩
  rw [gm_en, if_pos rfl, if_pos h, E g (by omega)]
  exact F g (by omega)
theorem gm_E2_0 {K : Nat → Nat} {i : Nat} (h : K i = 26) : gm_E2 K i (i + 1) := by
  intro f hf
  obtain ⟨g, rfl⟩ : ∃ g, f = g + 1 := ⟨f - 1, by omega⟩
  rw [gm_en, if_neg (by decide), if_pos rfl, if_pos h]
theorem gm_E2_s {K : Nat → Nat} {i j q : Nat} (h : K i ≠ 26) (hj : i < j) (hq : j < q) (E : gm_E0 K i j) (F : gm_E2 K j q) : gm_E2 K i q := by
  intro f hf
  obtain ⟨g, rfl⟩ : ∃ g, f = g + 1 := ⟨f - 1, by omega⟩
  rw [gm_en, if_neg (by decide), if_pos rfl, if_neg h, E g (by omega)]
  exact F g (by omega)
/-- openers ahead of i less ENDs ahead of it -/
def gm_od (K : Nat → Nat) : Nat → Int
  | 0 => 0
  | i + 1 => gm_od K i + (if K i = 21 ∨ K i = 24 ∨ K i = 25 then 1 else if K i = 26 then -1 else 0)
theorem gm_od_o {K : Nat → Nat} {i : Nat} (h : K i = 21 ∨ K i = 24 ∨ K i = 25) : gm_od K (i + 1) = gm_od K i + 1 := by
  rw [gm_od, if_pos h]
theorem gm_od_e {K : Nat → Nat} {i : Nat} (h : K i = 26) : gm_od K (i + 1) = gm_od K i - 1 := by
  rw [gm_od, if_neg (by omega), if_pos h]; omega
theorem gm_od_n {K : Nat → Nat} {i : Nat} (h : ¬ (K i = 21 ∨ K i = 24 ∨ K i = 25)) (h2 : K i ≠ 26) : gm_od K (i + 1) = gm_od K i := by
  rw [gm_od, if_neg h, if_neg h2]; omega
theorem gm_od_flat {K : Nat → Nat} {i : Nat} : ∀ d, (∀ c, i ≤ c → c < i + d → K c ≤ 17) → gm_od K (i + d) = gm_od K i
  | 0, _ => rfl
  | d + 1, h => by
    have a := gm_od_flat d (fun c h1 h2 => h c h1 (by omega))
    have b := h (i + d) (by omega) (by omega)
    have e : gm_od K (i + d + 1) = gm_od K (i + d) := gm_od_n (by omega) (by omega)
    show gm_od K (i + d + 1) = gm_od K i
    rw [e, a]
theorem gm_od_flat' {K : Nat → Nat} {i j x : Nat} (h : ∀ c, i ≤ c → c < j → K c ≤ 17) (h1 : i ≤ x) (h2 : x ≤ j) : gm_od K x = gm_od K i := by
  obtain ⟨d, rfl⟩ : ∃ d, x = i + d := ⟨x - i, by omega⟩
  exact gm_od_flat d (fun c a b => h c a (by omega))
def gm_bp (K : Nat → Nat) (len i : Nat) : Prop := i = len ∨ (i < len ∧ 20 ≤ K i ∧ K i ≤ 26)
/-- a row of conditions from i to q -/
def gm_cd (K : Nat → Nat) (len : Nat) : Nat → Nat → Nat → Prop
  | 0, i, q => i = q ∧ K i ≠ 16
  | f + 1, i, q => (i = q ∧ K i ≠ 16) ∨ (K i = 16 ∧ i < gm_e K i ∧ gm_e K i ≤ q ∧ q ≤ len ∧ gm_cd K len f (gm_e K i) q)
/-- a body from i on, its END just ahead of j -/
def gm_ch (K : Nat → Nat) : Nat → Nat → Nat → Prop
  | 0, _, _ => False
  | f + 1, i, j => (K i = 26 ∧ j = i + 1) ∨ (20 ≤ K i ∧ K i ≤ 25 ∧ i < gm_e K i ∧ gm_e K i < j ∧ gm_ch K f (gm_e K i) j)
theorem gm_cd_up {K : Nat → Nat} {len q : Nat} : ∀ f g i, f ≤ g → gm_cd K len f i q → gm_cd K len g i q
  | 0, 0, _, _, h => h
  | 0, _ + 1, _, _, h => Or.inl h
  | f + 1, 0, _, hl, _ => absurd hl (by omega)
  | f + 1, g + 1, i, hl, h => by
    rcases h with h | ⟨a, b, c, d, h⟩
    · exact Or.inl h
    · exact Or.inr ⟨a, b, c, d, gm_cd_up f g _ (by omega) h⟩
theorem gm_ch_up {K : Nat → Nat} {q : Nat} : ∀ f g i, f ≤ g → gm_ch K f i q → gm_ch K g i q
  | 0, _, _, _, h => absurd h id
  | f + 1, 0, _, hl, _ => absurd hl (by omega)
  | f + 1, g + 1, i, hl, h => by
    rcases h with h | ⟨a, b, c, d, h⟩
    · exact Or.inl h
    · exact Or.inr ⟨a, b, c, d, gm_ch_up f g _ (by omega) h⟩
/-- an opening bracket at c -/
def gm_o (K : Nat → Nat) (c : Nat) : Prop :=
  K (c + 1) ≤ 14 ∧ c + 1 < gm_e K (c + 1) ∧ K (gm_e K (c + 1)) = 17 ∧ gm_e K c = gm_e K (c + 1) + 1 ∧ ∀ x, c + 1 ≤ x → x < gm_e K (c + 1) → K x ≤ 15
/-- an opener at c, its body from b on -/
def gm_op (K : Nat → Nat) (len c b : Nat) : Prop :=
  b < gm_e K c ∧ gm_bp K len b ∧ gm_bp K len (gm_e K c) ∧ gm_ch K 32 b (gm_e K c) ∧ K (gm_e K c - 1) = 26 ∧
  gm_od K (gm_e K c) = gm_od K c ∧ ∀ x, c < x → x < gm_e K c → gm_od K c + 1 ≤ gm_od K x
/-- what holds at each token of an allowed text -/
def gm_L (K : Nat → Nat) (len c : Nat) : Prop :=
  c < gm_e K c ∧ gm_e K c ≤ len ∧ (∀ x, c ≤ x → x < gm_e K c → gm_e K x ≤ gm_e K c) ∧
  (K c ≤ 3 → gm_e K c = c + 1) ∧
  (4 ≤ K c ∧ K c ≤ 6 → K (c + 1) = 15 ∧ gm_e K c = gm_e K (c + 1) ∧ c + 1 < gm_e K c) ∧
  (7 ≤ K c ∧ K c ≤ 13 → K (c + 1) ≤ 14 ∧ K (gm_e K (c + 1)) ≤ 14 ∧ c + 1 < gm_e K (c + 1) ∧ gm_e K (c + 1) < gm_e K c ∧ gm_e K c = gm_e K (gm_e K (c + 1))) ∧
  (K c = 14 → K (c + 1) ≤ 14 ∧ gm_e K c = gm_e K (c + 1) ∧ c + 1 < gm_e K c) ∧
  (K c = 15 → ∃ q, gm_cd K len (q - (c + 1)) (c + 1) q ∧ c + 1 ≤ q ∧ q ≤ gm_e K c ∧ K q ≠ 16 ∧ (K q = 15 → gm_e K c = gm_e K q ∧ q < gm_e K c) ∧ (K q ≠ 15 → gm_e K c = q) ∧ K (gm_e K c) ≠ 15 ∧ K (gm_e K c) ≠ 16) ∧
  (K c = 16 → gm_o K c) ∧
  (17 ≤ K c → K c ≤ 17 ∨ (20 ≤ K c ∧ K c ≤ 26)) ∧
  (K c = 17 → gm_e K c = c + 1 ∧ ∃ o, o < c ∧ K o = 16 ∧ gm_e K o = c + 1) ∧
  (K c = 20 → gm_e K c = c + 1 ∧ gm_bp K len (c + 1)) ∧
  (K c = 21 → gm_op K len c (c + 1)) ∧
  (K c = 22 → K (c + 1) ≤ 14 ∧ gm_e K c = gm_e K (c + 1) ∧ c + 1 < gm_e K c ∧ gm_bp K len (gm_e K c)) ∧
  (K c = 23 → K (c + 1) = 15 ∧ gm_e K c = gm_e K (c + 1) ∧ c + 1 < gm_e K c ∧ gm_bp K len (gm_e K c)) ∧
  (K c = 24 → K (c + 1) ≤ 14 ∧ c + 1 < gm_e K (c + 1) ∧ gm_op K len c (gm_e K (c + 1))) ∧
  (K c = 25 → K (c + 1) = 15 ∧ c + 1 < gm_e K (c + 1) ∧ gm_op K len c (gm_e K (c + 1))) ∧
  (K c = 26 → gm_e K c = c + 1 ∧ gm_bp K len (c + 1) ∧ ∃ o, o < c ∧ (K o = 21 ∨ K o = 24 ∨ K o = 25) ∧ gm_e K o = c + 1) ∧
  (K c ≤ 15 → ∀ x, c ≤ x → x < gm_e K c → K x ≤ 17)
