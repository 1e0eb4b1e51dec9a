section
/-! the grammar, pure: a stack of wants (0 body at the bottom, 1 body that an END ends, 2/5 NUMBER, 3/6 PATH, 4/7 more of a path, 8 a closing bracket; 5, 6, 7 within a condition) -/
def gm_st (t : Nat) : List Nat → Option (List Nat)
  | [] => none
  | w :: s =>
    if w = 4 then (if t = 15 then some (4 :: s) else if t = 16 then some (5 :: 8 :: 4 :: s) else gm_st t s)
    else if w = 7 then (if t = 15 then some (7 :: s) else gm_st t s)
    else if w ≤ 1 then
      (if t = 20 then some (w :: s) else if t = 21 then some (1 :: w :: s) else if t = 22 then some (2 :: w :: s)
       else if t = 23 then some (3 :: w :: s) else if t = 24 then some (2 :: 1 :: w :: s) else if t = 25 then some (3 :: 1 :: w :: s)
       else if t = 26 ∧ w = 1 then some s else none)
    else if w = 2 ∨ w = 5 then
      (if t ≤ 3 then some s else if t ≤ 6 then some ((w + 1) :: s) else if t ≤ 13 then some (w :: w :: s) else if t = 14 then some (w :: s) else none)
    else if w = 3 ∨ w = 6 then (if t = 15 then some ((w + 1) :: s) else none)
    else if w = 8 then (if t = 17 then some s else none)
    else none
theorem gm_st4 (t : Nat) (s : List Nat) : gm_st t (4 :: s) = if t = 15 then some (4 :: s) else if t = 16 then some (5 :: 8 :: 4 :: s) else gm_st t s := by
  rw [gm_st, if_pos rfl]
theorem gm_st7 (t : Nat) (s : List Nat) : gm_st t (7 :: s) = if t = 15 then some (7 :: s) else gm_st t s := by
  rw [gm_st, if_neg (by decide), if_pos rfl]
theorem gm_stB (t w : Nat) (s : List Nat) (h : w ≤ 1) : gm_st t (w :: s) = if t = 20 then some (w :: s) else if t = 21 then some (1 :: w :: s) else if t = 22 then some (2 :: w :: s)
       else if t = 23 then some (3 :: w :: s) else if t = 24 then some (2 :: 1 :: w :: s) else if t = 25 then some (3 :: 1 :: w :: s)
       else if t = 26 ∧ w = 1 then some s else none := by
  rw [gm_st, if_neg (by omega), if_neg (by omega), if_pos h]
theorem gm_stN (t w : Nat) (s : List Nat) (h : w = 2 ∨ w = 5) : gm_st t (w :: s) = if t ≤ 3 then some s else if t ≤ 6 then some ((w + 1) :: s) else if t ≤ 13 then some (w :: w :: s) else if t = 14 then some (w :: s) else none := by
  rw [gm_st, if_neg (by omega), if_neg (by omega), if_neg (by omega), if_pos h]
theorem gm_stP (t w : Nat) (s : List Nat) (h : w = 3 ∨ w = 6) : gm_st t (w :: s) = if t = 15 then some ((w + 1) :: s) else none := by
  rw [gm_st, if_neg (by omega), if_neg (by omega), if_neg (by omega), if_neg (by omega), if_pos h]
theorem gm_st8 (t : Nat) (s : List Nat) : gm_st t (8 :: s) = if t = 17 then some s else none := by
  rw [gm_st, if_neg (by decide), if_neg (by decide), if_neg (by decide), if_neg (by decide), if_neg (by decide), if_pos rfl]
/-- d tokens from i on are taken, and what is left over may stay out -/
def gm_ac (K : Nat → Nat) : Nat → Nat → List Nat → Prop
  | 0, _, s => ∀ w, w ∈ s → w = 0 ∨ w = 4 ∨ w = 7
  | d + 1, i, s => ∃ s', gm_st (K i) s = some s' ∧ gm_ac K d (i + 1) s'
/-- where what begins at i ends: mode 0 a phrase, 1 a row of conditions, 2 a body with its END -/
def gm_en (K : Nat → Nat) : Nat → Nat → Nat → Nat
  | 0, _, i => i
  | f + 1, m, i =>
    if m = 1 then (if K i = 16 then gm_en K f 1 (gm_en K f 0 i) else i)
    else if m = 2 then (if K i = 26 then i + 1 else gm_en K f 2 (gm_en K f 0 i))
    else if K i = 4 ∨ K i = 5 ∨ K i = 6 ∨ K i = 14 ∨ K i = 22 ∨ K i = 23 then gm_en K f 0 (i + 1)
    else if 7 ≤ K i ∧ K i ≤ 13 then gm_en K f 0 (gm_en K f 0 (i + 1))
    else if K i = 16 then gm_en K f 0 (i + 1) + 1
    else if K i = 15 then (if K (gm_en K f 1 (i + 1)) = 15 then gm_en K f 0 (gm_en K f 1 (i + 1)) else gm_en K f 1 (i + 1))
    else if K i = 21 then gm_en K f 2 (i + 1)
    else if K i = 24 ∨ K i = 25 then gm_en K f 2 (gm_en K f 0 (i + 1))
    else i + 1
def gm_E0 (K : Nat → Nat) (i j : Nat) : Prop := ∀ f, 2 * j ≤ 2 * i + f → gm_en K f 0 i = j
def gm_E1 (K : Nat → Nat) (i j : Nat) : Prop := ∀ f, 2 * j + 1 ≤ 2 * i + f → gm_en K f 1 i = j
def gm_E2 (K : Nat → Nat) (i j : Nat) : Prop := ∀ f, 2 * j + 1 ≤ 2 * i + f → gm_en K f 2 i = j
abbrev gm_e (K : Nat → Nat) (c : Nat) : Nat := gm_en K 64 0 c
theorem gm_E0e {K : Nat → Nat} {i j : Nat} (h : gm_E0 K i j) (hj : j ≤ 32) : gm_e K i = j := h 64 (by omega)
theorem gm_fs {f i j : Nat} (h : 2 * j ≤ 2 * i + f) (hi : i < j) : ∃ g, f = g + 1 := ⟨f - 1, by omega⟩
theorem gm_E0_leaf {K : Nat → Nat} {i : Nat} (h : K i ≤ 3 ∨ K i = 17 ∨ K i = 20 ∨ 26 ≤ K i) : gm_E0 K i (i + 1) := by
  intro f hf
  obtain ⟨g, rfl⟩ := gm_fs hf (by omega)
  rw [gm_en, if_neg (by decide), if_neg (by decide), if_neg (by omega), if_neg (by omega), if_neg (by omega), if_neg (by omega), if_neg (by omega), if_neg (by omega)]
theorem gm_E0_one {K : Nat → Nat} {i j : Nat} (h : K i = 4 ∨ K i = 5 ∨ K i = 6 ∨ K i = 14 ∨ K i = 22 ∨ K i = 23) (hj : i + 1 < j) (E : gm_E0 K (i + 1) j) : gm_E0 K i j := by
  intro f hf
  obtain ⟨g, rfl⟩ := gm_fs hf (by omega)
  rw [gm_en, if_neg (by decide), if_neg (by decide), if_pos h]
  exact E g (by omega)
theorem gm_E0_two {K : Nat → Nat} {i j1 j : Nat} (h : 7 ≤ K i ∧ K i ≤ 13) (h1 : i + 1 < j1) (hj : j1 < j) (E : gm_E0 K (i + 1) j1) (F : gm_E0 K j1 j) : gm_E0 K i j := by
  intro f hf
  obtain ⟨g, rfl⟩ := gm_fs hf (by omega)
  rw [gm_en, if_neg (by decide), if_neg (by decide), if_neg (by omega), if_pos h, E g (by omega)]
  exact F g (by omega)
theorem gm_E0_open {K : Nat → Nat} {i j : Nat} (h : K i = 16) (hj : i + 1 < j) (E : gm_E0 K (i + 1) j) : gm_E0 K i (j + 1) := by
  intro f hf
  obtain ⟨g, rfl⟩ := gm_fs hf (by omega)
  rw [gm_en, if_neg (by decide), if_neg (by decide), if_neg (by omega), if_neg (by omega), if_pos h, E g (by omega)]
theorem gm_E0_step {K : Nat → Nat} {i q j : Nat} (h : K i = 15) (hq : i + 1 ≤ q) (hj : q ≤ j) (E : gm_E1 K (i + 1) q) (F : K q = 15 → gm_E0 K q j) (G : K q ≠ 15 → j = q) : gm_E0 K i j := by
  intro f hf
  obtain ⟨g, rfl⟩ := gm_fs hf (by omega)
  rw [gm_en, if_neg (by decide), if_neg (by decide), if_neg (by omega), if_neg (by omega), if_neg (by omega), if_pos h, E g (by omega)]
  by_cases hk : K q = 15
  · rw [if_pos hk]; exact F hk g (by omega)
  · rw [if_neg hk]; exact (G hk).symm
theorem gm_E0_el {K : Nat → Nat} {i j : Nat} (h : K i = 21) (hj : i + 1 < j) (E : gm_E2 K (i + 1) j) : gm_E0 K i j := by
  intro f hf
  obtain ⟨g, rfl⟩ := gm_fs hf (by omega)
  rw [gm_en, if_neg (by decide), if_neg (by decide), if_neg (by omega), if_neg (by omega), if_neg (by omega), if_neg (by omega), if_pos h]
  exact E g (by omega)
theorem gm_E0_if {K : Nat → Nat} {i j1 j : Nat} (h : K i = 24 ∨ K i = 25) (h1 : i + 1 < j1) (hj : j1 < j) (E : gm_E0 K (i + 1) j1) (F : gm_E2 K j1 j) : gm_E0 K i j := by
  intro f hf
  obtain ⟨g, rfl⟩ := gm_fs hf (by omega)
  rw [gm_en, if_neg (by decide), if_neg (by decide), if_neg (by omega), if_neg (by omega), if_neg (by omega), if_neg (by omega), if_neg (by omega), if_pos h, E g (by omega)]
  exact F g (by omega)
theorem gm_E1_0 {K : Nat → Nat} {i : Nat} (h : K i ≠ 16) : gm_E1 K i i := by
  intro f hf
  obtain ⟨g, rfl⟩ : ∃ g, f = g + 1 := ⟨f - 1, by omega⟩
  rw [gm_en, if_pos rfl, if_neg h]
theorem gm_E1_s {K : Nat → Nat} {i j q : Nat} (h : K i = 16) (hj : i < j) (hq : j ≤ q) (E : gm_E0 K i j) (F : gm_E1 K j q) : gm_E1 K i q := by
  intro f hf
  obtain ⟨g, rfl⟩ : ∃ g, f = g + 1 := ⟨f - 1, by omega⟩
  rw [gm_en, if_pos rfl, if_pos h, E g (by omega)]
  exact F g (by omega)
theorem gm_E2_0 {K : Nat → Nat} {i : Nat} (h : K i = 26) : gm_E2 K i (i + 1) := by
  intro f hf
  obtain ⟨g, rfl⟩ : ∃ g, f = g + 1 := ⟨f - 1, by omega⟩
  rw [gm_en, if_neg (by decide), if_pos rfl, if_pos h]
theorem gm_E2_s {K : Nat → Nat} {i j q : Nat} (h : K i ≠ 26) (hj : i < j) (hq : j < q) (E : gm_E0 K i j) (F : gm_E2 K j q) : gm_E2 K i q := by
  intro f hf
  obtain ⟨g, rfl⟩ : ∃ g, f = g + 1 := ⟨f - 1, by omega⟩
  rw [gm_en, if_neg (by decide), if_pos rfl, if_neg h, E g (by omega)]
  exact F g (by omega)
/-- openers ahead of i less ENDs ahead of it -/
def gm_od (K : Nat → Nat) : Nat → Int
  | 0 => 0
  | i + 1 => gm_od K i + (if K i = 21 ∨ K i = 24 ∨ K i = 25 then 1 else if K i = 26 then -1 else 0)
theorem gm_od_o {K : Nat → Nat} {i : Nat} (h : K i = 21 ∨ K i = 24 ∨ K i = 25) : gm_od K (i + 1) = gm_od K i + 1 := by
  rw [gm_od, if_pos h]
theorem gm_od_e {K : Nat → Nat} {i : Nat} (h : K i = 26) : gm_od K (i + 1) = gm_od K i - 1 := by
  rw [gm_od, if_neg (by omega), if_pos h]; omega
theorem gm_od_n {K : Nat → Nat} {i : Nat} (h : ¬ (K i = 21 ∨ K i = 24 ∨ K i = 25)) (h2 : K i ≠ 26) : gm_od K (i + 1) = gm_od K i := by
  rw [gm_od, if_neg h, if_neg h2]; omega
theorem gm_od_flat {K : Nat → Nat} {i : Nat} : ∀ d, (∀ c, i ≤ c → c < i + d → K c ≤ 17) → gm_od K (i + d) = gm_od K i
  | 0, _ => rfl
  | d + 1, h => by
    have a := gm_od_flat d (fun c h1 h2 => h c h1 (by omega))
    have b := h (i + d) (by omega) (by omega)
    have e : gm_od K (i + d + 1) = gm_od K (i + d) := gm_od_n (by omega) (by omega)
    show gm_od K (i + d + 1) = gm_od K i
    rw [e, a]
theorem gm_od_flat' {K : Nat → Nat} {i j x : Nat} (h : ∀ c, i ≤ c → c < j → K c ≤ 17) (h1 : i ≤ x) (h2 : x ≤ j) : gm_od K x = gm_od K i := by
  obtain ⟨d, rfl⟩ : ∃ d, x = i + d := ⟨x - i, by omega⟩
  exact gm_od_flat d (fun c a b => h c a (by omega))
def gm_bp (K : Nat → Nat) (len i : Nat) : Prop := i = len ∨ (i < len ∧ 20 ≤ K i ∧ K i ≤ 26)
/-- a row of conditions from i to q -/
def gm_cd (K : Nat → Nat) (len : Nat) : Nat → Nat → Nat → Prop
  | 0, i, q => i = q ∧ K i ≠ 16
  | f + 1, i, q => (i = q ∧ K i ≠ 16) ∨ (K i = 16 ∧ i < gm_e K i ∧ gm_e K i ≤ q ∧ q ≤ len ∧ gm_cd K len f (gm_e K i) q)
/-- a body from i on, its END just ahead of j -/
def gm_ch (K : Nat → Nat) : Nat → Nat → Nat → Prop
  | 0, _, _ => False
  | f + 1, i, j => (K i = 26 ∧ j = i + 1) ∨ (20 ≤ K i ∧ K i ≤ 25 ∧ i < gm_e K i ∧ gm_e K i < j ∧ gm_ch K f (gm_e K i) j)
theorem gm_cd_up {K : Nat → Nat} {len q : Nat} : ∀ f g i, f ≤ g → gm_cd K len f i q → gm_cd K len g i q
  | 0, 0, _, _, h => h
  | 0, _ + 1, _, _, h => Or.inl h
  | f + 1, 0, _, hl, _ => absurd hl (by omega)
  | f + 1, g + 1, i, hl, h => by
    rcases h with h | ⟨a, b, c, d, h⟩
    · exact Or.inl h
    · exact Or.inr ⟨a, b, c, d, gm_cd_up f g _ (by omega) h⟩
theorem gm_ch_up {K : Nat → Nat} {q : Nat} : ∀ f g i, f ≤ g → gm_ch K f i q → gm_ch K g i q
  | 0, _, _, _, h => absurd h id
  | f + 1, 0, _, hl, _ => absurd hl (by omega)
  | f + 1, g + 1, i, hl, h => by
    rcases h with h | ⟨a, b, c, d, h⟩
    · exact Or.inl h
    · exact Or.inr ⟨a, b, c, d, gm_ch_up f g _ (by omega) h⟩
/-- an opening bracket at c -/
def gm_o (K : Nat → Nat) (c : Nat) : Prop :=
  K (c + 1) ≤ 14 ∧ c + 1 < gm_e K (c + 1) ∧ K (gm_e K (c + 1)) = 17 ∧ gm_e K c = gm_e K (c + 1) + 1 ∧ ∀ x, c + 1 ≤ x → x < gm_e K (c + 1) → K x ≤ 15
/-- an opener at c, its body from b on -/
def gm_op (K : Nat → Nat) (len c b : Nat) : Prop :=
  b < gm_e K c ∧ gm_bp K len b ∧ gm_bp K len (gm_e K c) ∧ gm_ch K 32 b (gm_e K c) ∧ K (gm_e K c - 1) = 26 ∧
  gm_od K (gm_e K c) = gm_od K c ∧ ∀ x, c < x → x < gm_e K c → gm_od K c + 1 ≤ gm_od K x
/-- what holds at each token of an allowed text -/
def gm_L (K : Nat → Nat) (len c : Nat) : Prop :=
  c < gm_e K c ∧ gm_e K c ≤ len ∧ (∀ x, c ≤ x → x < gm_e K c → gm_e K x ≤ gm_e K c) ∧
  (K c ≤ 3 → gm_e K c = c + 1) ∧
  (4 ≤ K c ∧ K c ≤ 6 → K (c + 1) = 15 ∧ gm_e K c = gm_e K (c + 1) ∧ c + 1 < gm_e K c) ∧
  (7 ≤ K c ∧ K c ≤ 13 → K (c + 1) ≤ 14 ∧ K (gm_e K (c + 1)) ≤ 14 ∧ c + 1 < gm_e K (c + 1) ∧ gm_e K (c + 1) < gm_e K c ∧ gm_e K c = gm_e K (gm_e K (c + 1))) ∧
  (K c = 14 → K (c + 1) ≤ 14 ∧ gm_e K c = gm_e K (c + 1) ∧ c + 1 < gm_e K c) ∧
  (K c = 15 → ∃ q, gm_cd K len (q - (c + 1)) (c + 1) q ∧ c + 1 ≤ q ∧ q ≤ gm_e K c ∧ K q ≠ 16 ∧ (K q = 15 → gm_e K c = gm_e K q ∧ q < gm_e K c) ∧ (K q ≠ 15 → gm_e K c = q) ∧ K (gm_e K c) ≠ 15 ∧ K (gm_e K c) ≠ 16) ∧
  (K c = 16 → gm_o K c) ∧
  (17 ≤ K c → K c ≤ 17 ∨ (20 ≤ K c ∧ K c ≤ 26)) ∧
  (K c = 17 → gm_e K c = c + 1 ∧ ∃ o, o < c ∧ K o = 16 ∧ gm_e K o = c + 1) ∧
  (K c = 20 → gm_e K c = c + 1 ∧ gm_bp K len (c + 1)) ∧
  (K c = 21 → gm_op K len c (c + 1)) ∧
  (K c = 22 → K (c + 1) ≤ 14 ∧ gm_e K c = gm_e K (c + 1) ∧ c + 1 < gm_e K c ∧ gm_bp K len (gm_e K c)) ∧
  (K c = 23 → K (c + 1) = 15 ∧ gm_e K c = gm_e K (c + 1) ∧ c + 1 < gm_e K c ∧ gm_bp K len (gm_e K c)) ∧
  (K c = 24 → K (c + 1) ≤ 14 ∧ c + 1 < gm_e K (c + 1) ∧ gm_op K len c (gm_e K (c + 1))) ∧
  (K c = 25 → K (c + 1) = 15 ∧ c + 1 < gm_e K (c + 1) ∧ gm_op K len c (gm_e K (c + 1))) ∧
  (K c = 26 → gm_e K c = c + 1 ∧ gm_bp K len (c + 1) ∧ ∃ o, o < c ∧ (K o = 21 ∨ K o = 24 ∨ K o = 25) ∧ gm_e K o = c + 1) ∧
  (K c ≤ 15 → ∀ x, c ≤ x → x < gm_e K c → K x ≤ 17)
end
section
/-! what an accepted text looks like: each want is completed by a phrase -/
def gm_in : List Nat → Prop
  | [] => False
  | w :: s => w = 8 ∨ (w = 5 ∧ gm_in s)
theorem gm_in16 : ∀ s, gm_in s → gm_st 16 s = none
  | [], h => absurd h id
  | w :: s, h => by
    rcases h with rfl | ⟨rfl, h⟩
    · rw [gm_st8, if_neg (by decide)]
    · rw [gm_stN _ _ _ (Or.inr rfl), if_neg (by decide), if_neg (by decide), if_neg (by decide), if_neg (by decide)]
def gm_cs (K : Nat → Nat) (len b i j : Nat) : Prop := ∀ c, i ≤ c → c < j → gm_L K len c ∧ K c ≤ b ∧ gm_e K c ≤ j
theorem gm_cs_0 {K : Nat → Nat} {len b i : Nat} : gm_cs K len b i i := fun c h1 h2 => absurd h1 (by omega)
theorem gm_cs_1 {K : Nat → Nat} {len b i j : Nat} (h : gm_L K len i ∧ K i ≤ b ∧ gm_e K i ≤ j) (H : gm_cs K len b (i + 1) j) : gm_cs K len b i j := fun c h1 h2 => by
  rcases Nat.eq_or_lt_of_le h1 with e | e
  · rw [← e]; exact h
  · exact H c e h2
theorem gm_lam {K : Nat → Nat} {len b i j : Nat} (ee : gm_e K i = j) (H : gm_cs K len b (i + 1) j) : ∀ x, i ≤ x → x < gm_e K i → gm_e K x ≤ gm_e K i := fun x h1 h2 => by
  rcases Nat.eq_or_lt_of_le h1 with e | e
  · rw [e]; exact Nat.le_refl _
  · rw [ee] at h2 ⊢
    exact (H x e h2).2.2
theorem gm_flat {K : Nat → Nat} {len b i j : Nat} (ee : gm_e K i = j) (hk : K i ≤ 17) (hb : b ≤ 17) (H : gm_cs K len b (i + 1) j) : ∀ x, i ≤ x → x < gm_e K i → K x ≤ 17 := fun x h1 h2 => by
  rcases Nat.eq_or_lt_of_le h1 with e | e
  · rw [← e]; exact hk
  · rw [ee] at h2
    exact Nat.le_trans (H x e h2).2.1 hb
theorem gm_cs_2 {K : Nat → Nat} {len b i m j : Nat} (hm : m ≤ j) (H : gm_cs K len b i m) (G : gm_cs K len b m j) : gm_cs K len b i j := fun c h1 h2 => by
  rcases Nat.lt_or_ge c m with e | e
  · exact ⟨(H c h1 e).1, (H c h1 e).2.1, Nat.le_trans (H c h1 e).2.2 hm⟩
  · exact G c e h2
theorem gm_cs_b {K : Nat → Nat} {len b b' i j : Nat} (hb : b ≤ b') (H : gm_cs K len b i j) : gm_cs K len b' i j := fun c h1 h2 =>
  ⟨(H c h1 h2).1, Nat.le_trans (H c h1 h2).2.1 hb, (H c h1 h2).2.2⟩
/-- the rest of a path from i on -/
def gm_RP (K : Nat → Nat) (len b i : Nat) (s : List Nat) : Prop :=
  ∃ q j, i ≤ q ∧ q ≤ j ∧ j ≤ len ∧ gm_E1 K i q ∧ gm_cd K len (q - i) i q ∧ K q ≠ 16 ∧ (K q = 15 → gm_E0 K q j ∧ q < j) ∧ (K q ≠ 15 → j = q) ∧ K j ≠ 15 ∧ K j ≠ 16 ∧ gm_cs K len b i j ∧ gm_ac K (len - j) j s
def gm_P (K : Nat → Nat) (len b i : Nat) (s : List Nat) : Prop :=
  K i = 15 ∧ ∃ j, i < j ∧ j ≤ len ∧ gm_E0 K i j ∧ gm_cs K len b i j ∧ gm_ac K (len - j) j s
def gm_N (K : Nat → Nat) (len b i : Nat) (s : List Nat) : Prop :=
  K i ≤ 14 ∧ ∃ j, i < j ∧ j ≤ len ∧ gm_E0 K i j ∧ gm_cs K len b i j ∧ gm_ac K (len - j) j s
theorem gm_RP_stop {K : Nat → Nat} {len b d i : Nat} {s : List Nat} (hi : i + d = len) (h1 : K i ≠ 15) (h2 : K i ≠ 16) (h : gm_ac K d i s) : gm_RP K len b i s := by
  have e : len - i = d := by omega
  refine ⟨i, i, Nat.le_refl _, Nat.le_refl _, by omega, gm_E1_0 h2, ?_, h2, fun z => absurd z h1, fun _ => rfl, h1, h2, gm_cs_0, by rw [e]; exact h⟩
  rw [Nat.sub_self]; exact ⟨rfl, h2⟩
theorem gm_L15 {K : Nat → Nat} {len c q j : Nat} (hl : len ≤ 30) (hk : K c = 15) (a1 : c + 1 ≤ q) (a2 : q ≤ j) (a3 : j ≤ len) (E : gm_E1 K (c + 1) q) (C : gm_cd K len (q - (c + 1)) (c + 1) q) (h16 : K q ≠ 16) (F : K q = 15 → gm_E0 K q j ∧ q < j) (G : K q ≠ 15 → j = q) (b1 : K j ≠ 15) (b2 : K j ≠ 16) {b : Nat} (hb2 : b ≤ 17) (cs : gm_cs K len b (c + 1) j) : gm_E0 K c j ∧ gm_L K len c := by
  have E0 : gm_E0 K c j := gm_E0_step hk a1 a2 E (fun z => (F z).1) G
  have ee : gm_e K c = j := gm_E0e E0 (by omega)
  refine ⟨E0, by rw [ee]; omega, by rw [ee]; omega, gm_lam ee cs, fun h => ?_, fun h => ?_, fun h => ?_, fun h => ?_, fun h => ?_, fun h => ?_, fun h => ?_, fun h => ?_, fun h => ?_, fun h => ?_, fun h => ?_, fun h => ?_, fun h => ?_, fun h => ?_, fun h => ?_, fun h => ?_⟩
  all_goals first | (exfalso; omega) | skip
  rotate_left
  · exact gm_flat ee (by omega) hb2 cs
  rw [ee]
  exact ⟨q, C, a1, a2, h16, fun z => ⟨(gm_E0e (F z).1 (by omega)).symm, (F z).2⟩, G, b1, b2⟩
theorem gm_RP_step {K : Nat → Nat} {len b i : Nat} {s : List Nat} (hl : len ≤ 30) (hb : 15 ≤ b) (hb2 : b ≤ 17) (hk : K i = 15) (R : gm_RP K len b (i + 1) s) : gm_RP K len b i s := by
  obtain ⟨q, j, a1, a2, a3, E, C, h16, F, G, b1, b2, cs, ac⟩ := R
  obtain ⟨E0, L⟩ := gm_L15 hl hk a1 a2 a3 E C h16 F G b1 b2 hb2 cs
  refine ⟨i, j, Nat.le_refl _, by omega, a3, gm_E1_0 (by omega), ?_, by omega, fun _ => ⟨E0, by omega⟩, fun z => absurd hk z, b1, b2, gm_cs_1 ⟨L, by omega, by rw [gm_E0e E0 (by omega)]; exact Nat.le_refl _⟩ cs, ac⟩
  rw [Nat.sub_self]; exact ⟨rfl, by omega⟩
theorem gm_RP_P {K : Nat → Nat} {len b i : Nat} {s : List Nat} (hk : K i = 15) (R : gm_RP K len b i s) : gm_P K len b i s := by
  obtain ⟨q, j, a1, a2, a3, E, C, h16, F, G, b1, b2, cs, ac⟩ := R
  have e : i = q := by
    have x := E (2 * q + 1) (by omega)
    have y := gm_E1_0 (K := K) (i := i) (by omega) (2 * q + 1) (by omega)
    omega
  subst e
  exact ⟨hk, j, (F hk).2, a3, (F hk).1, cs, ac⟩
theorem gm_M7 {K : Nat → Nat} {len : Nat} (hl : len ≤ 30) (hK : K len = 27) : ∀ d i s, i + d = len → gm_in s → gm_ac K d i (7 :: s) → gm_RP K len 15 i s := by
  intro d
  induction d with
  | zero =>
    intro i s hi _ h
    have e : i = len := by omega
    subst e
    exact gm_RP_stop (d := 0) rfl (by omega) (by omega) (fun w hw => h w (List.mem_cons_of_mem _ hw))
  | succ d ih =>
    intro i s hi hs h
    obtain ⟨s', h1, h2⟩ := h
    rw [gm_st7] at h1
    by_cases hk : K i = 15
    · rw [if_pos hk] at h1
      cases h1
      exact gm_RP_step hl (Nat.le_refl _) (by omega) hk (ih (i + 1) s (by omega) hs h2)
    · rw [if_neg hk] at h1
      refine gm_RP_stop hi hk (fun z => ?_) ⟨s', h1, h2⟩
      rw [z, gm_in16 s hs] at h1
      exact nomatch h1
theorem gm_P6 {K : Nat → Nat} {len : Nat} (hl : len ≤ 30) (hK : K len = 27) (d i : Nat) (s : List Nat) (hi : i + d = len) (hs : gm_in s) (h : gm_ac K d i (6 :: s)) : gm_P K len 15 i s := by
  cases d with
  | zero => have := h 6 (by simp); omega
  | succ d =>
    obtain ⟨s', h1, h2⟩ := h
    rw [gm_stP _ _ _ (Or.inr rfl)] at h1
    by_cases hk : K i = 15
    · refine gm_RP_P hk (gm_M7 hl hK (d + 1) i s hi hs ⟨s', ?_, h2⟩)
      rw [gm_st7, if_pos hk]
      rw [if_pos hk] at h1
      exact h1
    · rw [if_neg hk] at h1
      exact nomatch h1
theorem gm_num {K : Nat → Nat} {len b w d : Nat} {ok : List Nat → Prop} (hl : len ≤ 30) (hb : 15 ≤ b) (hb2 : b ≤ 17) (hw : w = 2 ∨ w = 5) (hok : ∀ s, ok s → ok (w :: s))
    (hN : ∀ d' i s, d' ≤ d → i + d' = len → ok s → gm_ac K d' i (w :: s) → gm_N K len b i s)
    (hP : ∀ d' i s, d' ≤ d → i + d' = len → ok s → gm_ac K d' i ((w + 1) :: s) → gm_P K len b i s)
    (i : Nat) (s : List Nat) (hi : i + (d + 1) = len) (hs : ok s) (h : gm_ac K (d + 1) i (w :: s)) : gm_N K len b i s := by
  obtain ⟨s', h1, h2⟩ := h
  rw [gm_stN _ _ _ hw] at h1
  by_cases h3 : K i ≤ 3
  · rw [if_pos h3] at h1
    cases h1
    have E0 : gm_E0 K i (i + 1) := gm_E0_leaf (Or.inl h3)
    have ee : gm_e K i = i + 1 := gm_E0e E0 (by omega)
    have e : len - (i + 1) = d := by omega
    refine ⟨by omega, i + 1, by omega, by omega, E0, gm_cs_1 ⟨?_, by omega, by omega⟩ gm_cs_0, by rw [e]; exact h2⟩
    refine ⟨by rw [ee]; omega, by rw [ee]; omega, gm_lam ee (gm_cs_0 (len := len) (b := 17)), fun h => ?_, fun h => ?_, fun h => ?_, fun h => ?_, fun h => ?_, fun h => ?_, fun h => ?_, fun h => ?_, fun h => ?_, fun h => ?_, fun h => ?_, fun h => ?_, fun h => ?_, fun h => ?_, fun h => ?_, fun h => ?_⟩
    all_goals first | (exfalso; omega) | skip
    · exact ee
    · exact gm_flat (len := len) (b := 17) ee (by omega) (by omega) gm_cs_0
  rw [if_neg h3] at h1
  by_cases h6 : K i ≤ 6
  · rw [if_pos h6] at h1
    cases h1
    obtain ⟨k15, j, a1, a2, E, cs, ac⟩ := hP d (i + 1) s (Nat.le_refl _) (by omega) hs h2
    have E0 : gm_E0 K i j := gm_E0_one (by omega) a1 E
    have ee : gm_e K i = j := gm_E0e E0 (by omega)
    have e1 : gm_e K (i + 1) = j := gm_E0e E (by omega)
    refine ⟨by omega, j, by omega, a2, E0, gm_cs_1 ⟨?_, by omega, by omega⟩ cs, ac⟩
    refine ⟨by rw [ee]; omega, by rw [ee]; omega, gm_lam ee cs, fun h => ?_, fun h => ?_, fun h => ?_, fun h => ?_, fun h => ?_, fun h => ?_, fun h => ?_, fun h => ?_, fun h => ?_, fun h => ?_, fun h => ?_, fun h => ?_, fun h => ?_, fun h => ?_, fun h => ?_, fun h => ?_⟩
    all_goals first | (exfalso; omega) | skip
    rotate_left
    · exact gm_flat ee (by omega) hb2 cs
    rw [ee, e1]
    exact ⟨k15, rfl, a1⟩
  rw [if_neg h6] at h1
  by_cases h13 : K i ≤ 13
  · rw [if_pos h13] at h1
    cases h1
    obtain ⟨k1, j1, a1, a2, E, cs1, ac1⟩ := hN d (i + 1) (w :: s) (Nat.le_refl _) (by omega) (hok s hs) h2
    obtain ⟨k2, j, c1, c2, F, cs2, ac2⟩ := hN (len - j1) j1 s (by omega) (by omega) hs ac1
    have E0 : gm_E0 K i j := gm_E0_two ⟨by omega, h13⟩ a1 c1 E F
    have ee : gm_e K i = j := gm_E0e E0 (by omega)
    have e1 : gm_e K (i + 1) = j1 := gm_E0e E (by omega)
    have e2 : gm_e K j1 = j := gm_E0e F (by omega)
    refine ⟨by omega, j, by omega, c2, E0, gm_cs_1 ⟨?_, by omega, by omega⟩ (gm_cs_2 (by omega) cs1 cs2), ac2⟩
    refine ⟨by rw [ee]; omega, by rw [ee]; omega, gm_lam ee (gm_cs_2 (Nat.le_of_lt c1) cs1 cs2), fun h => ?_, fun h => ?_, fun h => ?_, fun h => ?_, fun h => ?_, fun h => ?_, fun h => ?_, fun h => ?_, fun h => ?_, fun h => ?_, fun h => ?_, fun h => ?_, fun h => ?_, fun h => ?_, fun h => ?_, fun h => ?_⟩
    all_goals first | (exfalso; omega) | skip
    rotate_left
    · exact gm_flat ee (by omega) hb2 (gm_cs_2 (Nat.le_of_lt c1) cs1 cs2)
    rw [ee, e1, e2]
    exact ⟨k1, k2, a1, c1, rfl⟩
  rw [if_neg h13] at h1
  by_cases h14 : K i = 14
  · rw [if_pos h14] at h1
    cases h1
    obtain ⟨k1, j, a1, a2, E, cs, ac⟩ := hN d (i + 1) s (Nat.le_refl _) (by omega) hs h2
    have E0 : gm_E0 K i j := gm_E0_one (by omega) a1 E
    have ee : gm_e K i = j := gm_E0e E0 (by omega)
    have e1 : gm_e K (i + 1) = j := gm_E0e E (by omega)
    refine ⟨by omega, j, by omega, a2, E0, gm_cs_1 ⟨?_, by omega, by omega⟩ cs, ac⟩
    refine ⟨by rw [ee]; omega, by rw [ee]; omega, gm_lam ee cs, fun h => ?_, fun h => ?_, fun h => ?_, fun h => ?_, fun h => ?_, fun h => ?_, fun h => ?_, fun h => ?_, fun h => ?_, fun h => ?_, fun h => ?_, fun h => ?_, fun h => ?_, fun h => ?_, fun h => ?_, fun h => ?_⟩
    all_goals first | (exfalso; omega) | skip
    rotate_left
    · exact gm_flat ee (by omega) hb2 cs
    rw [ee, e1]
    exact ⟨k1, rfl, a1⟩
  rw [if_neg h14] at h1
  exact nomatch h1
theorem gm_N5 {K : Nat → Nat} {len : Nat} (hl : len ≤ 30) (hK : K len = 27) : ∀ d i s, i + d = len → gm_in s → gm_ac K d i (5 :: s) → gm_N K len 15 i s := by
  intro d
  induction d using Nat.strongRecOn with
  | _ d ih =>
    cases d with
    | zero => intro i s _ _ h; have := h 5 (by simp); omega
    | succ d =>
      exact gm_num (ok := gm_in) hl (Nat.le_refl _) (by omega) (Or.inr rfl) (fun s h => Or.inr ⟨rfl, h⟩) (fun d' i s hd => ih d' (by omega) i s) (fun d' i s _ => gm_P6 hl hK d' i s)
theorem gm_M4 {K : Nat → Nat} {len : Nat} (hl : len ≤ 30) (hK : K len = 27) : ∀ d i s, i + d = len → gm_ac K d i (4 :: s) → gm_RP K len 17 i s := by
  intro d
  induction d using Nat.strongRecOn with
  | _ d ih =>
    intro i s hi h
    cases d with
    | zero =>
      have e : i = len := by omega
      subst e
      exact gm_RP_stop (d := 0) rfl (by omega) (by omega) (fun w hw => h w (List.mem_cons_of_mem _ hw))
    | succ d =>
      obtain ⟨s', h1, h2⟩ := h
      rw [gm_st4] at h1
      by_cases hk : K i = 15
      · rw [if_pos hk] at h1
        cases h1
        exact gm_RP_step hl (by omega) (by omega) hk (ih d (by omega) (i + 1) s (by omega) h2)
      rw [if_neg hk] at h1
      by_cases ho : K i = 16
      · rw [if_pos ho] at h1
        cases h1
        obtain ⟨k1, j, a1, a2, E, cs, ac⟩ := gm_N5 hl hK d (i + 1) (8 :: 4 :: s) (by omega) (Or.inl rfl) h2
        have hj : j < len := by
          rcases Nat.lt_or_ge j len with z | z
          · exact z
          · have e : len - j = 0 := by omega
            rw [e] at ac
            have := ac 8 (by simp)
            omega
        obtain ⟨m, hm⟩ : ∃ m, len - j = m + 1 := ⟨len - j - 1, by omega⟩
        rw [hm] at ac
        obtain ⟨s2, g1, g2⟩ := ac
        rw [gm_st8] at g1
        by_cases hc : K j = 17
        · rw [if_pos hc] at g1
          cases g1
          obtain ⟨q, j2, c1, c2, c3, E1, C, h16, F, G, b1, b2, cs2, ac2⟩ := ih m (by omega) (j + 1) s (by omega) g2
          have E0 : gm_E0 K i (j + 1) := gm_E0_open ho a1 E
          have ee : gm_e K i = j + 1 := gm_E0e E0 (by omega)
          have e1 : gm_e K (i + 1) = j := gm_E0e E (by omega)
          have ej : gm_e K j = j + 1 := gm_E0e (gm_E0_leaf (Or.inr (Or.inl hc))) (by omega)
          have Lj : gm_L K len j := by
            refine ⟨by rw [ej]; omega, by rw [ej]; omega, gm_lam (len := len) (b := 17) ej gm_cs_0, fun h => ?_, fun h => ?_, fun h => ?_, fun h => ?_, fun h => ?_, fun h => ?_, fun h => ?_, fun h => ?_, fun h => ?_, fun h => ?_, fun h => ?_, fun h => ?_, fun h => ?_, fun h => ?_, fun h => ?_, fun h => ?_⟩
            all_goals first | (exfalso; omega) | skip
            · omega
            · exact ⟨ej, i, by omega, ho, ee⟩
          have Li : gm_L K len i := by
            refine ⟨by rw [ee]; omega, by rw [ee]; omega, gm_lam ee (gm_cs_2 (Nat.le_succ j) (gm_cs_b (Nat.le_succ_of_le (Nat.le_succ 15)) cs) (gm_cs_1 ⟨Lj, Nat.le_of_eq hc, Nat.le_of_eq ej⟩ gm_cs_0)), fun h => ?_, fun h => ?_, fun h => ?_, fun h => ?_, fun h => ?_, fun h => ?_, fun h => ?_, fun h => ?_, fun h => ?_, fun h => ?_, fun h => ?_, fun h => ?_, fun h => ?_, fun h => ?_, fun h => ?_, fun h => ?_⟩
            all_goals first | (exfalso; omega) | skip
            refine ⟨k1, by rw [e1]; exact a1, by rw [e1]; exact hc, by rw [ee, e1], fun x x1 x2 => ?_⟩
            rw [e1] at x2
            exact (cs x x1 x2).2.1
          refine ⟨q, j2, by omega, c2, c3, gm_E1_s ho (by omega) c1 E0 E1, ?_, h16, F, G, b1, b2, ?_, ac2⟩
          · obtain ⟨f, hf⟩ : ∃ f, q - i = f + 1 := ⟨q - i - 1, by omega⟩
            rw [hf]
            refine Or.inr ⟨ho, by rw [ee]; omega, by rw [ee]; omega, by omega, ?_⟩
            rw [ee]
            exact gm_cd_up _ _ _ (by omega) C
          · exact gm_cs_1 ⟨Li, by omega, by omega⟩ (gm_cs_2 (by omega) (gm_cs_b (by omega) cs) (gm_cs_1 ⟨Lj, by omega, by omega⟩ cs2))
        · rw [if_neg hc] at g1
          exact nomatch g1
      rw [if_neg ho] at h1
      exact gm_RP_stop hi hk ho ⟨s', h1, h2⟩
theorem gm_P3 {K : Nat → Nat} {len : Nat} (hl : len ≤ 30) (hK : K len = 27) (d i : Nat) (s : List Nat) (hi : i + d = len) (h : gm_ac K d i (3 :: s)) : gm_P K len 17 i s := by
  cases d with
  | zero => have := h 3 (by simp); omega
  | succ d =>
    obtain ⟨s', h1, h2⟩ := h
    rw [gm_stP _ _ _ (Or.inl rfl)] at h1
    by_cases hk : K i = 15
    · refine gm_RP_P hk (gm_M4 hl hK (d + 1) i s hi ⟨s', ?_, h2⟩)
      rw [gm_st4, if_pos hk]
      rw [if_pos hk] at h1
      exact h1
    · rw [if_neg hk] at h1
      exact nomatch h1
theorem gm_N2 {K : Nat → Nat} {len : Nat} (hl : len ≤ 30) (hK : K len = 27) : ∀ d i s, i + d = len → gm_ac K d i (2 :: s) → gm_N K len 17 i s := by
  intro d
  induction d using Nat.strongRecOn with
  | _ d ih =>
    cases d with
    | zero => intro i s _ h; have := h 2 (by simp); omega
    | succ d =>
      intro i s hi
      exact gm_num (ok := fun _ => True) hl (by omega) (by omega) (Or.inl rfl) (fun s h => h) (fun d' i s hd hi _ => ih d' (by omega) i s hi) (fun d' i s _ hi _ => gm_P3 hl hK d' i s hi) i s hi trivial
end
section
/-! bodies, and the three uses of a draft -/
theorem gm_bpw {K : Nat → Nat} {len d i w : Nat} {s : List Nat} (hw : w ≤ 1) (hi : i + d = len) (h : gm_ac K d i (w :: s)) : gm_bp K len i := by
  cases d with
  | zero => exact Or.inl (by omega)
  | succ d =>
    obtain ⟨s', h1, h2⟩ := h
    rw [gm_stB _ _ _ hw] at h1
    by_cases hk : 20 ≤ K i ∧ K i ≤ 26
    · exact Or.inr ⟨by omega, hk⟩
    · rw [if_neg (by omega), if_neg (by omega), if_neg (by omega), if_neg (by omega), if_neg (by omega), if_neg (by omega), if_neg (by omega)] at h1
      exact nomatch h1
def gm_X (K : Nat → Nat) (len w i : Nat) (s : List Nat) : Prop :=
  ∃ j, i < j ∧ j ≤ len ∧ gm_E0 K i j ∧ gm_cs K len 26 i j ∧ gm_od K j = gm_od K i ∧ (∀ x, i ≤ x → x ≤ j → gm_od K i ≤ gm_od K x) ∧ gm_ac K (len - j) j (w :: s)
def gm_B (K : Nat → Nat) (len w i : Nat) (s : List Nat) : Prop :=
  ∃ j, i < j ∧ j ≤ len ∧ gm_E2 K i j ∧ gm_ch K (j - i) i j ∧ K (j - 1) = 26 ∧ gm_cs K len 26 i (j - 1) ∧ gm_od K (j - 1) = gm_od K i ∧ (∀ x, i ≤ x → x < j → gm_od K i ≤ gm_od K x) ∧ gm_ac K (len - j) j (w :: s)
theorem gm_opn {K : Nat → Nat} {len w i b j : Nat} {s : List Nat} (hl : len ≤ 30) (hw : w ≤ 1) (ho : K i = 21 ∨ K i = 24 ∨ K i = 25) (hb : i < b) (hf : ∀ x, i + 1 ≤ x → x ≤ b → gm_od K x = gm_od K i + 1) (hbp : gm_bp K len b) (E0 : gm_E0 K i j)
    (h1 : b < j) (h2 : j ≤ len) (C : gm_ch K (j - b) b j) (hE : K (j - 1) = 26) (od1 : gm_od K (j - 1) = gm_od K b) (od2 : ∀ x, b ≤ x → x < j → gm_od K b ≤ gm_od K x) (ac : gm_ac K (len - j) j (w :: s)) :
    gm_op K len i b ∧ gm_L K len (j - 1) ∧ gm_od K j = gm_od K i ∧ ∀ x, i ≤ x → x ≤ j → gm_od K i ≤ gm_od K x := by
  have ee : gm_e K i = j := gm_E0e E0 (by omega)
  have fb := hf b (by omega) (Nat.le_refl _)
  have ej : j - 1 + 1 = j := by omega
  have oj : gm_od K j = gm_od K i := by
    have := gm_od_e hE
    rw [ej] at this
    omega
  have ins : ∀ x, i < x → x < j → gm_od K i + 1 ≤ gm_od K x := fun x x1 x2 => by
    rcases Nat.le_total x b with z | z
    · have := hf x x1 z; omega
    · have := od2 x z x2; omega
  have bj : gm_bp K len j := gm_bpw hw (by omega) ac
  refine ⟨?_, ?_, oj, fun x x1 x2 => ?_⟩
  · unfold gm_op
    rw [ee]
    exact ⟨h1, hbp, bj, gm_ch_up _ _ _ (by omega) C, hE, oj, ins⟩
  · have e1 : gm_e K (j - 1) = j := by
      have := gm_E0e (gm_E0_leaf (K := K) (i := j - 1) (by omega)) (by omega)
      rw [this, ej]
    refine ⟨by rw [e1]; omega, by rw [e1]; omega, gm_lam (len := len) (b := 26) e1 (by rw [ej]; exact gm_cs_0), fun h => ?_, fun h => ?_, fun h => ?_, fun h => ?_, fun h => ?_, fun h => ?_, fun h => ?_, fun h => ?_, fun h => ?_, fun h => ?_, fun h => ?_, fun h => ?_, fun h => ?_, fun h => ?_, fun h => ?_, fun h => ?_⟩
    all_goals first | (exfalso; omega) | skip
    · omega
    · rw [e1, ej]
      exact ⟨rfl, bj, i, by omega, ho, ee⟩
  · rcases Nat.eq_or_lt_of_le x1 with z | z
    · rw [z]; exact Int.le_refl _
    · rcases Nat.eq_or_lt_of_le x2 with y | y
      · rw [y, oj]; exact Int.le_refl _
      · have := ins x z y; omega
theorem gm_el {K : Nat → Nat} {len w d : Nat} {s : List Nat} (hl : len ≤ 30) (hK : K len = 27) (hw : w ≤ 1) (hB : ∀ d' i, d' ≤ d → i + d' = len → gm_ac K d' i (1 :: w :: s) → gm_B K len w i s)
    (i : Nat) (hi : i + (d + 1) = len) (hk : 20 ≤ K i ∧ K i ≤ 25) (h : gm_ac K (d + 1) i (w :: s)) : gm_X K len w i s := by
  obtain ⟨s', h1, h2⟩ := h
  rw [gm_stB _ _ _ hw] at h1
  by_cases h20 : K i = 20
  · rw [if_pos h20] at h1
    cases h1
    have E0 : gm_E0 K i (i + 1) := gm_E0_leaf (by omega)
    have ee : gm_e K i = i + 1 := gm_E0e E0 (by omega)
    have e : len - (i + 1) = d := by omega
    have od : gm_od K (i + 1) = gm_od K i := gm_od_n (by omega) (by omega)
    refine ⟨i + 1, by omega, by omega, E0, gm_cs_1 ⟨?_, by omega, by omega⟩ gm_cs_0, od, fun x x1 x2 => ?_, by rw [e]; exact h2⟩
    · refine ⟨by rw [ee]; omega, by rw [ee]; omega, gm_lam ee (gm_cs_0 (len := len) (b := 26)), fun h => ?_, fun h => ?_, fun h => ?_, fun h => ?_, fun h => ?_, fun h => ?_, fun h => ?_, fun h => ?_, fun h => ?_, fun h => ?_, fun h => ?_, fun h => ?_, fun h => ?_, fun h => ?_, fun h => ?_, fun h => ?_⟩
      all_goals first | (exfalso; omega) | skip
      · omega
      · exact ⟨ee, gm_bpw hw (by omega) h2⟩
    · rcases Nat.eq_or_lt_of_le x1 with z | z
      · rw [z]; exact Int.le_refl _
      · have : x = i + 1 := by omega
        rw [this, od]; exact Int.le_refl _
  rw [if_neg h20] at h1
  by_cases h21 : K i = 21
  · rw [if_pos h21] at h1
    cases h1
    obtain ⟨j, a1, a2, E2, C, hE, cs, od1, od2, ac⟩ := hB d (i + 1) (Nat.le_refl _) (by omega) h2
    have E0 : gm_E0 K i j := gm_E0_el h21 a1 E2
    have ee : gm_e K i = j := gm_E0e E0 (by omega)
    have hf : ∀ x, i + 1 ≤ x → x ≤ i + 1 → gm_od K x = gm_od K i + 1 := fun x x1 x2 => by
      have : x = i + 1 := by omega
      rw [this]; exact gm_od_o (Or.inl h21)
    obtain ⟨op, Le, oj, ox⟩ := gm_opn hl hw (Or.inl h21) (by omega) hf (gm_bpw (w := 1) (by omega) (by omega) h2) E0 a1 a2 C hE od1 od2 ac
    have e9 : gm_e K (j - 1) ≤ j := by have := gm_E0e (gm_E0_leaf (K := K) (i := j - 1) (by omega)) (by omega); omega
    have csj : gm_cs K len 26 (i + 1) j := gm_cs_2 (by omega) cs (fun c c1 c2 => by
      have : c = j - 1 := by omega
      subst this
      exact ⟨Le, by omega, e9⟩)
    refine ⟨j, by omega, a2, E0, gm_cs_1 ⟨?_, by omega, by omega⟩ csj, oj, ox, ac⟩
    · refine ⟨by rw [ee]; omega, by rw [ee]; omega, gm_lam ee csj, fun h => ?_, fun h => ?_, fun h => ?_, fun h => ?_, fun h => ?_, fun h => ?_, fun h => ?_, fun h => ?_, fun h => ?_, fun h => ?_, fun h => ?_, fun h => ?_, fun h => ?_, fun h => ?_, fun h => ?_, fun h => ?_⟩
      all_goals first | (exfalso; omega) | skip
      · omega
      · exact op
  rw [if_neg h21] at h1
  by_cases h22 : K i = 22
  · rw [if_pos h22] at h1
    cases h1
    obtain ⟨k1, j, a1, a2, E, cs, ac⟩ := gm_N2 hl hK d (i + 1) (w :: s) (by omega) h2
    have E0 : gm_E0 K i j := gm_E0_one (by omega) a1 E
    have ee : gm_e K i = j := gm_E0e E0 (by omega)
    have e1 : gm_e K (i + 1) = j := gm_E0e E (by omega)
    have od0 : gm_od K (i + 1) = gm_od K i := gm_od_n (by omega) (by omega)
    have od : ∀ x, i ≤ x → x ≤ j → gm_od K x = gm_od K i := fun x x1 x2 => by
      rcases Nat.eq_or_lt_of_le x1 with z | z
      · rw [z]
      · rw [← od0]; exact gm_od_flat' (fun c c1 c2 => (cs c c1 c2).2.1) z x2
    refine ⟨j, by omega, a2, E0, gm_cs_1 ⟨?_, by omega, by omega⟩ (gm_cs_b (by omega) cs), od j (by omega) (Nat.le_refl _), fun x x1 x2 => by rw [od x x1 x2]; exact Int.le_refl _, ac⟩
    refine ⟨by rw [ee]; omega, by rw [ee]; omega, gm_lam ee cs, fun h => ?_, fun h => ?_, fun h => ?_, fun h => ?_, fun h => ?_, fun h => ?_, fun h => ?_, fun h => ?_, fun h => ?_, fun h => ?_, fun h => ?_, fun h => ?_, fun h => ?_, fun h => ?_, fun h => ?_, fun h => ?_⟩
    all_goals first | (exfalso; omega) | skip
    · omega
    · rw [ee, e1]; exact ⟨k1, rfl, a1, gm_bpw hw (by omega) ac⟩
  rw [if_neg h22] at h1
  by_cases h23 : K i = 23
  · rw [if_pos h23] at h1
    cases h1
    obtain ⟨k1, j, a1, a2, E, cs, ac⟩ := gm_P3 hl hK d (i + 1) (w :: s) (by omega) h2
    have E0 : gm_E0 K i j := gm_E0_one (by omega) a1 E
    have ee : gm_e K i = j := gm_E0e E0 (by omega)
    have e1 : gm_e K (i + 1) = j := gm_E0e E (by omega)
    have od0 : gm_od K (i + 1) = gm_od K i := gm_od_n (by omega) (by omega)
    have od : ∀ x, i ≤ x → x ≤ j → gm_od K x = gm_od K i := fun x x1 x2 => by
      rcases Nat.eq_or_lt_of_le x1 with z | z
      · rw [z]
      · rw [← od0]; exact gm_od_flat' (fun c c1 c2 => (cs c c1 c2).2.1) z x2
    refine ⟨j, by omega, a2, E0, gm_cs_1 ⟨?_, by omega, by omega⟩ (gm_cs_b (by omega) cs), od j (by omega) (Nat.le_refl _), fun x x1 x2 => by rw [od x x1 x2]; exact Int.le_refl _, ac⟩
    refine ⟨by rw [ee]; omega, by rw [ee]; omega, gm_lam ee cs, fun h => ?_, fun h => ?_, fun h => ?_, fun h => ?_, fun h => ?_, fun h => ?_, fun h => ?_, fun h => ?_, fun h => ?_, fun h => ?_, fun h => ?_, fun h => ?_, fun h => ?_, fun h => ?_, fun h => ?_, fun h => ?_⟩
    all_goals first | (exfalso; omega) | skip
    · omega
    · rw [ee, e1]; exact ⟨k1, rfl, a1, gm_bpw hw (by omega) ac⟩
  rw [if_neg h23] at h1
  have both : ∀ j1, i + 1 < j1 → j1 ≤ len → gm_E0 K (i + 1) j1 → gm_cs K len 17 (i + 1) j1 → gm_ac K (len - j1) j1 (1 :: w :: s) → (K i = 24 ∨ K i = 25) → (K i = 24 → K (i + 1) ≤ 14) → (K i = 25 → K (i + 1) = 15) → gm_X K len w i s := fun j1 a1 a2 E cs1 ac1 hio k24 k25 => by
    obtain ⟨j, c1, c2, E2, C, hE, cs, od1, od2, ac⟩ := hB (len - j1) j1 (by omega) (by omega) ac1
    have E0 : gm_E0 K i j := gm_E0_if hio a1 c1 E E2
    have ee : gm_e K i = j := gm_E0e E0 (by omega)
    have e1 : gm_e K (i + 1) = j1 := gm_E0e E (by omega)
    have od0 : gm_od K (i + 1) = gm_od K i + 1 := gm_od_o (Or.inr hio)
    have hf : ∀ x, i + 1 ≤ x → x ≤ j1 → gm_od K x = gm_od K i + 1 := fun x x1 x2 => by
      rw [← od0]; exact gm_od_flat' (fun c c1 c2 => (cs1 c c1 c2).2.1) x1 x2
    obtain ⟨op, Le, oj, ox⟩ := gm_opn hl hw (Or.inr hio) (by omega) hf (gm_bpw (w := 1) (by omega) (by omega) ac1) E0 c1 c2 C hE od1 od2 ac
    have e9 : gm_e K (j - 1) ≤ j := by have := gm_E0e (gm_E0_leaf (K := K) (i := j - 1) (by omega)) (by omega); omega
    have csj : gm_cs K len 26 (i + 1) j := gm_cs_2 (by omega) (gm_cs_b (by omega) cs1) (gm_cs_2 (by omega) cs (fun c c1 c2 => by
      have : c = j - 1 := by omega
      subst this
      exact ⟨Le, by omega, e9⟩))
    refine ⟨j, by omega, c2, E0, gm_cs_1 ⟨?_, by omega, by omega⟩ csj, oj, ox, ac⟩
    · refine ⟨by rw [ee]; omega, by rw [ee]; omega, gm_lam ee csj, fun h => ?_, fun h => ?_, fun h => ?_, fun h => ?_, fun h => ?_, fun h => ?_, fun h => ?_, fun h => ?_, fun h => ?_, fun h => ?_, fun h => ?_, fun h => ?_, fun h => ?_, fun h => ?_, fun h => ?_, fun h => ?_⟩
      · exfalso; omega
      · exfalso; omega
      · exfalso; omega
      · exfalso; omega
      · exfalso; omega
      · exfalso; omega
      · omega
      · exfalso; omega
      · exfalso; omega
      · exfalso; omega
      · exfalso; omega
      · exfalso; omega
      · rw [e1]; exact ⟨k24 h, a1, op⟩
      · rw [e1]; exact ⟨k25 h, a1, op⟩
      · exfalso; omega
      · exfalso; omega
  by_cases h24 : K i = 24
  · rw [if_pos h24] at h1
    cases h1
    obtain ⟨k1, j1, a1, a2, E, cs1, ac1⟩ := gm_N2 hl hK d (i + 1) (1 :: w :: s) (by omega) h2
    exact both j1 a1 a2 E cs1 ac1 (Or.inl h24) (fun _ => k1) (fun z => by omega)
  rw [if_neg h24] at h1
  have h25 : K i = 25 := by omega
  rw [if_pos h25] at h1
  cases h1
  obtain ⟨k1, j1, a1, a2, E, cs1, ac1⟩ := gm_P3 hl hK d (i + 1) (1 :: w :: s) (by omega) h2
  exact both j1 a1 a2 E cs1 ac1 (Or.inr h25) (fun z => by omega) (fun _ => k1)
theorem gm_B1 {K : Nat → Nat} {len : Nat} (hl : len ≤ 30) (hK : K len = 27) : ∀ d i w s, w ≤ 1 → i + d = len → gm_ac K d i (1 :: w :: s) → gm_B K len w i s := by
  intro d
  induction d using Nat.strongRecOn with
  | _ d ih =>
    intro i w s hw hi h
    cases d with
    | zero => have := h 1 (by simp); omega
    | succ d =>
      have hbp := gm_bpw (w := 1) (by omega) hi h
      have hlt : 20 ≤ K i ∧ K i ≤ 26 := by
        rcases hbp with z | z
        · omega
        · exact z.2
      by_cases h26 : K i = 26
      · obtain ⟨s', h1, h2⟩ := h
        rw [gm_stB _ _ _ (by omega), if_neg (by omega), if_neg (by omega), if_neg (by omega), if_neg (by omega), if_neg (by omega), if_neg (by omega), if_pos ⟨h26, rfl⟩] at h1
        cases h1
        have e : len - (i + 1) = d := by omega
        refine ⟨i + 1, by omega, by omega, gm_E2_0 h26, ?_, h26, gm_cs_0, rfl, fun x x1 x2 => ?_, by rw [e]; exact h2⟩
        · have e1 : i + 1 - i = 0 + 1 := by omega
          rw [e1]; exact Or.inl ⟨h26, rfl⟩
        · have : x = i := by omega
          rw [this]; exact Int.le_refl _
      · obtain ⟨j1, a1, a2, E, cs1, od1, ox1, ac1⟩ := gm_el (w := 1) (s := w :: s) hl hK (by omega) (fun d' i' hd hi' h' => ih d' (by omega) i' 1 (w :: s) (by omega) hi' h') i hi ⟨hlt.1, by omega⟩ h
        obtain ⟨j, c1, c2, E2, C, hE, cs2, od2, ox2, ac2⟩ := ih (len - j1) (by omega) j1 w s hw (by omega) ac1
        have ee : gm_e K i = j1 := gm_E0e E (by omega)
        refine ⟨j, by omega, c2, gm_E2_s h26 a1 c1 E E2, ?_, hE, gm_cs_2 (by omega) cs1 cs2, by rw [od2, od1], fun x x1 x2 => ?_, ac2⟩
        · obtain ⟨f, hf⟩ : ∃ f, j - i = f + 1 := ⟨j - i - 1, by omega⟩
          rw [hf]
          refine Or.inr ⟨hlt.1, by omega, by rw [ee]; exact a1, by rw [ee]; exact c1, ?_⟩
          rw [ee]
          exact gm_ch_up _ _ _ (by omega) C
        · rcases Nat.le_total x j1 with z | z
          · exact ox1 x x1 z
          · have := ox2 x z x2
            rw [od1] at this
            exact this
theorem gm_B0 {K : Nat → Nat} {len : Nat} (hl : len ≤ 30) (hK : K len = 27) : ∀ d i, i + d = len → gm_ac K d i [0] → gm_cs K len 26 i len := by
  intro d
  induction d using Nat.strongRecOn with
  | _ d ih =>
    intro i hi h
    cases d with
    | zero =>
      have e : i = len := by omega
      subst e
      exact gm_cs_0
    | succ d =>
      have hlt : 20 ≤ K i ∧ K i ≤ 26 := by
        rcases gm_bpw (w := 0) (by omega) hi h with z | z
        · omega
        · exact z.2
      by_cases h26 : K i = 26
      · obtain ⟨s', h1, h2⟩ := h
        rw [gm_stB _ _ _ (by omega), if_neg (by omega), if_neg (by omega), if_neg (by omega), if_neg (by omega), if_neg (by omega), if_neg (by omega), if_neg (by omega)] at h1
        exact nomatch h1
      · obtain ⟨j, a1, a2, E, cs, _, _, ac⟩ := gm_el (w := 0) (s := []) hl hK (by omega) (fun d' i' _ hi' h' => gm_B1 hl hK d' i' 0 [] (by omega) hi' h') i hi ⟨hlt.1, by omega⟩ h
        exact gm_cs_2 a2 cs (ih (len - j) (by omega) j (by omega) ac)
/-- an allowed text: its tokens, then nothing but 27 -/
def gm_W (K : Nat → Nat) (len : Nat) : Prop := len ≤ 30 ∧ (∀ i, len ≤ i → K i = 27) ∧ ∀ c, c < len → gm_L K len c
theorem gm_W_rule {K : Nat → Nat} {len : Nat} (hl : len ≤ 30) (hK : ∀ i, len ≤ i → K i = 27) (h : gm_ac K len 0 [3, 0]) : gm_W K len ∧ K 0 = 15 ∧ 0 < gm_e K 0 ∧ gm_e K 0 ≤ len ∧ gm_bp K len (gm_e K 0) := by
  obtain ⟨k, j, a1, a2, E, cs, ac⟩ := gm_P3 hl (hK len (Nat.le_refl _)) len 0 [0] (by omega) h
  have ee : gm_e K 0 = j := gm_E0e E (by omega)
  have b := gm_B0 hl (hK len (Nat.le_refl _)) (len - j) j (by omega) ac
  refine ⟨⟨hl, hK, fun c hc => ?_⟩, k, by rw [ee]; exact a1, by rw [ee]; exact a2, by rw [ee]; exact gm_bpw (w := 0) (by omega) (by omega) ac⟩
  exact (gm_cs_2 a2 (gm_cs_b (by omega) cs) b c (by omega) hc).1
theorem gm_ac_nil {K : Nat → Nat} {len j : Nat} (hj : j ≤ len) (h : gm_ac K (len - j) j []) : j = len := by
  rcases Nat.eq_or_lt_of_le hj with z | z
  · exact z
  · obtain ⟨m, hm⟩ : ∃ m, len - j = m + 1 := ⟨len - j - 1, by omega⟩
    rw [hm] at h
    obtain ⟨s', h1, _⟩ := h
    exact nomatch h1
theorem gm_W_sel {K : Nat → Nat} {len : Nat} (hl : len ≤ 30) (hK : ∀ i, len ≤ i → K i = 27) (h : gm_ac K len 0 [3]) : gm_W K len ∧ K 0 = 15 ∧ gm_e K 0 = len ∧ 0 < len ∧ ∀ c, c < len → K c ≤ 17 := by
  obtain ⟨k, j, a1, a2, E, cs, ac⟩ := gm_P3 hl (hK len (Nat.le_refl _)) len 0 [] (by omega) h
  have ee : gm_e K 0 = j := gm_E0e E (by omega)
  have ej := gm_ac_nil a2 ac
  subst ej
  exact ⟨⟨hl, hK, fun c hc => (cs c (by omega) hc).1⟩, k, ee, a1, fun c hc => (cs c (by omega) hc).2.1⟩
theorem gm_W_num {K : Nat → Nat} {len : Nat} (hl : len ≤ 30) (hK : ∀ i, len ≤ i → K i = 27) (h : gm_ac K len 0 [2]) : gm_W K len ∧ K 0 ≤ 14 ∧ gm_e K 0 = len ∧ 0 < len ∧ ∀ c, c < len → K c ≤ 17 := by
  obtain ⟨k, j, a1, a2, E, cs, ac⟩ := gm_N2 hl (hK len (Nat.le_refl _)) len 0 [] (by omega) h
  have ee : gm_e K 0 = j := gm_E0e E (by omega)
  have ej := gm_ac_nil a2 ac
  subst ej
  exact ⟨⟨hl, hK, fun c hc => (cs c (by omega) hc).1⟩, k, ee, a1, fun c hc => (cs c (by omega) hc).2.1⟩
end
section
/-! rows pasted from kit/rows (PURE-ROWS, BITS) -/
theorem pk_us {f : Nat → Int32} {k : Nat} {x : Int32} : upd f k x k = x := if_pos rfl
theorem pk_un {f : Nat → Int32} {k j : Nat} {x : Int32} (h : j ≠ k) : upd f k x j = f j := if_neg h
theorem pk_sub {a b : Nat} (h : b ≤ a) : nI a - nI b = nI (a - b) := by
  obtain ⟨c, rfl⟩ : ∃ c, a = c + b := ⟨a - b, by omega⟩
  rw [← nI_add, Int32.add_sub_cancel, Nat.add_sub_cancel]
theorem pk_m1 (n : Nat) : nI (n + 1) + (-1) = nI n := by
  rw [← nI_1, Int32.add_assoc, show (1 : Int32) + (-1) = 0 from rfl, Int32.add_zero]
theorem pk_mul (a b : Nat) : nI a * nI b = nI (a * b) := (Int32.ofNat_mul a b).symm
theorem pk_div {a d : Nat} (ha : a < 2 ^ 31) (h0 : 0 < d) (hd : d < 2 ^ 31) : nI a / nI d = nI (a / d) := by
  apply Int32.toInt_inj.mp
  rw [lg_idiv_nonneg (by rw [nI_toInt ha]; omega) (by rw [nI_toInt hd]; omega), nI_toInt ha, nI_toInt hd, nI_toInt (Nat.lt_of_le_of_lt (Nat.div_le_self a d) ha)]
  first | rfl | exact (Int.natCast_ediv _ _).symm
theorem pk_rem {a d : Nat} (ha : a < 2 ^ 31) (h0 : 0 < d) (hd : d < 2 ^ 31) : nI a - nI a / nI d * nI d = nI (a % d) := by
  rw [pk_div ha h0 hd, pk_mul, pk_sub (Nat.div_mul_le_self a d)]
  exact congrArg nI (by have := Nat.div_add_mod' a d; omega)
theorem pk_sub_toInt {a b : Nat} (ha : a < 2 ^ 30) (hb : b < 2 ^ 30) : (nI a - nI b).toInt = (a : Int) - b := by
  rw [Int32.toInt_sub, nI_toInt (by omega), nI_toInt (by omega)]
  exact Int.bmod_eq_of_le (by omega) (by omega)
theorem pk_sneg {a b : Nat} (hb : b < 2 ^ 30) (h : a < b) : nI a - nI b < 0 := by
  rw [Int32.lt_iff_toInt_lt, pk_sub_toInt (by omega) hb, show (0 : Int32).toInt = 0 from by decide]
  omega
theorem pk_ix (x : Int32) {n : Nat} (hn : n < 2 ^ 31) : x < 0 ∨ nI n ≤ x ∨ ∃ j : Nat, j < n ∧ x = nI j := by
  by_cases h : x < 0
  · exact Or.inl h
  · obtain ⟨j, hj, rfl⟩ := nI_of h
    by_cases h2 : j < n
    · exact Or.inr (Or.inr ⟨j, h2, rfl⟩)
    · exact Or.inr (Or.inl (nI_le (by omega) hj))
theorem pk_le {x y : Int32} {A B : Prop} (a b : Nat) (f : a ≤ b → A) (g : b < a → B) (hx : x = nI a := by rfl) (hy : y = nI b := by rfl) (ha : a < 2 ^ 31 := by omega) (hb : b < 2 ^ 31 := by omega) : (x ≤ y → A) ∧ (¬ x ≤ y → B) := by
  subst hx hy
  rw [nI_leI ha hb]
  exact ⟨f, fun z => g (by omega)⟩
theorem pk_lt {x y : Int32} {A B : Prop} (a b : Nat) (f : a < b → A) (g : b ≤ a → B) (hx : x = nI a := by rfl) (hy : y = nI b := by rfl) (ha : a < 2 ^ 31 := by omega) (hb : b < 2 ^ 31 := by omega) : (x < y → A) ∧ (¬ x < y → B) := by
  subst hx hy
  rw [nI_ltI ha hb]
  exact ⟨f, fun z => g (by omega)⟩
theorem pk_eq {x y : Int32} {A B : Prop} (a b : Nat) (f : a = b → A) (g : a ≠ b → B) (hx : x = nI a := by rfl) (hy : y = nI b := by rfl) (ha : a < 2 ^ 31 := by omega) (hb : b < 2 ^ 31 := by omega) : (x = y → A) ∧ (¬ x = y → B) := by
  subst hx hy
  rw [nI_eq ha hb]
  exact ⟨f, g⟩
theorem pk_in {x : Int32} (n N : Nat) (h : n < N) (hx : x = nI n := by rfl) (hN : N < 2 ^ 31 := by omega) : vp_in x N := by
  subst hx
  exact vp_in_nI h hN
theorem pk_cl {x : Int32} (n : Nat) (hx : x = nI n := by rfl) (h : n < 2 ^ 31 := by omega) : x.toNatClampNeg = n := by
  subst hx
  exact nI_clamp h
theorem pk_tn {n : Nat} (h : n < 2 ^ 32) : (nI n).toBitVec.toNat = n := Nat.mod_eq_of_lt h
theorem pk_and (x : Int32) {m : Int32} (k : Nat) (hm : m.toBitVec.toNat = 2 ^ k - 1) : x &&& m = nI (x.toBitVec.toNat % 2 ^ k) := by
  apply Int32.toBitVec_inj.mp
  apply BitVec.eq_of_toNat_eq
  rw [Int32.toBitVec_and, BitVec.toNat_and, hm, Nat.and_two_pow_sub_one_eq_mod]
  show _ = (BitVec.ofNat 32 _).toNat
  rw [BitVec.toNat_ofNat]
  exact (Nat.mod_eq_of_lt (Nat.lt_of_le_of_lt (Nat.mod_le _ _) x.toBitVec.isLt)).symm
theorem pk_andN {n : Nat} (h : n < 2 ^ 32) {m : Int32} (k : Nat) (hm : m.toBitVec.toNat = 2 ^ k - 1) : nI n &&& m = nI (n % 2 ^ k) := by
  rw [pk_and _ k hm, pk_tn h]
theorem pk_andE (x : Int32) {m : Int32} (k : Nat) (hm : m.toBitVec.toNat = 2 ^ k - 1) : ∃ j : Nat, j < 2 ^ k ∧ x &&& m = nI j := ⟨_, Nat.mod_lt _ (Nat.two_pow_pos k), pk_and x k hm⟩
theorem pk_shr (a s : Int32) (k : Nat) (hs : (s.toBitVec.smod 32).toNat = k) : (a >>> s).toInt = a.toInt >>> k := by
  show (a.toBitVec.sshiftRight (s.toBitVec.smod 32).toNat).toInt = _
  rw [hs, BitVec.toInt_sshiftRight]
  rfl
theorem pk_shrN {n : Nat} (h : n < 2 ^ 31) (s : Int32) (k : Nat) (hs : (s.toBitVec.smod 32).toNat = k) : nI n >>> s = nI (n / 2 ^ k) := by
  apply Int32.toInt_inj.mp
  have h2 : n / 2 ^ k ≤ n := Nat.div_le_self _ _
  rw [pk_shr _ _ k hs, nI_toInt h, nI_toInt (by omega), Int.shiftRight_eq_div_pow]
  rfl
theorem pk_nb (z : Int32) : narrow .byte (.int z.toInt8.toInt32) = .int z.toInt8.toInt32 := congrArg Value.int (by simp)
theorem pk_fb (r : Int32) : fits .byte (.int r.toInt8.toInt32) = true := by
  have ⟨a, b⟩ := lg_i2b_range r
  have h1 : (-128 : Int32).toInt = -128 := by decide
  have h2 : (127 : Int32).toInt = 127 := by decide
  simp only [fits, Bool.and_eq_true, decide_eq_true_eq, Int32.le_iff_toInt_le, h1, h2]
  omega
theorem pk_vb (z : Int32) : vp_nar .byte z.toInt8.toInt32 = z.toInt8.toInt32 := by rw [vp_nar_byte]; simp
theorem pk_loop {σ : Type} (W : Nat → Nat → σ → Prop) (I : Nat → σ → Prop) (e i0 : Nat) (s : σ) (hi : i0 ≤ e) (h0 : I i0 s) (hx : ∀ n s, I e s → W (n + 1) e s)
    (hs : ∀ n i s, i < e → I i s → (∀ s', I (i + 1) s' → W n (i + 1) s') → W (n + 1) i s) : ∃ n, W n i0 s :=
  ⟨e + 1, loop_i W I e hx hs (e + 1) i0 s hi (by omega) h0⟩
theorem pk_loopD {σ : Type} (W : Nat → Nat → σ → Prop) (I : Nat → σ → Prop) (hx : ∀ n s, I 0 s → W (n + 1) 0 s)
    (hs : ∀ n i s, I (i + 1) s → (∀ s', I i s' → W n i s') → W (n + 1) (i + 1) s) : ∀ (e : Nat) (s : σ), I e s → W (e + 1) e s := by
  intro e
  induction e with
  | zero => exact fun s h => hx 0 s h
  | succ e ih => exact fun s h => hs (e + 1) e s h (fun s' h' => ih s' h')
theorem pk_least (P : Nat → Prop) (h : ∃ k, P k) : ∃ k, P k ∧ ∀ j, j < k → ¬ P j := by
  obtain ⟨k, hk⟩ := h
  induction k using Nat.strongRecOn with
  | ind k ih =>
    by_cases e : ∃ j, j < k ∧ P j
    · obtain ⟨j, hj, pj⟩ := e
      exact ih j hj pj
    · exact ⟨k, hk, fun j hj pj => e ⟨j, hj, pj⟩⟩
theorem ek_if {c d A B : Prop} (e : c ↔ d) (f : d → A) (g : ¬ d → B) : (c → A) ∧ (¬ c → B) :=
  ⟨fun z => f (e.mp z), fun z => g (fun y => z (e.mpr y))⟩
theorem ek_v {α : Sort _} {P : α → Prop} {a b : α} (e : a = b) (h : P b) : P a := e ▸ h
theorem pk_mu {x : Int32} {L : Nat} (h0 : ¬ x < 0) (h : ¬ nI L ≤ x) (hL : L < 2 ^ 31) : ∃ j : Nat, j < L ∧ x = nI j ∧ x + 1 = nI (j + 1) ∧ x.toNatClampNeg = j ∧ L - (x + 1).toNatClampNeg < L - x.toNatClampNeg := by
  obtain ⟨j, hj, rfl⟩ := nI_of h0
  have hl : j < L := Nat.not_le.mp fun q => h (nI_le q hj)
  refine ⟨j, hl, rfl, nI_1 j, nI_clamp hj, ?_⟩
  rw [nI_1, nI_clamp (by omega), nI_clamp hj]
  omega
theorem lp1 {A1 : Type} (W : Nat → A1 → Prop) (I : A1 → Prop) (μ : A1 → Nat) (hs : ∀ (n : Nat) (a1 : A1), I a1 → (∀ (b1 : A1), I b1 → μ b1 < μ a1 → W n b1) → W (n + 1) a1) (a1 : A1) (h : I a1) : ∃ n, W n a1 :=
  loop_m (σ := A1) (fun n s => W n s) (fun s => I s) (fun s => μ s) (fun n s hI hk => hs n s hI (fun b1 h9 hm => hk b1 h9 hm)) a1 h
theorem lp2 {A1 A2 : Type} (W : Nat → A1 → A2 → Prop) (I : A1 → A2 → Prop) (μ : A1 → A2 → Nat) (hs : ∀ (n : Nat) (a1 : A1) (a2 : A2), I a1 a2 → (∀ (b1 : A1) (b2 : A2), I b1 b2 → μ b1 b2 < μ a1 a2 → W n b1 b2) → W (n + 1) a1 a2) (a1 : A1) (a2 : A2) (h : I a1 a2) : ∃ n, W n a1 a2 :=
  loop_m (σ := A1 × A2) (fun n s => W n s.1 s.2) (fun s => I s.1 s.2) (fun s => μ s.1 s.2) (fun n s hI hk => hs n s.1 s.2 hI (fun b1 b2 h9 hm => hk (b1, b2) h9 hm)) (a1, a2) h
theorem lp3 {A1 A2 A3 : Type} (W : Nat → A1 → A2 → A3 → Prop) (I : A1 → A2 → A3 → Prop) (μ : A1 → A2 → A3 → Nat) (hs : ∀ (n : Nat) (a1 : A1) (a2 : A2) (a3 : A3), I a1 a2 a3 → (∀ (b1 : A1) (b2 : A2) (b3 : A3), I b1 b2 b3 → μ b1 b2 b3 < μ a1 a2 a3 → W n b1 b2 b3) → W (n + 1) a1 a2 a3) (a1 : A1) (a2 : A2) (a3 : A3) (h : I a1 a2 a3) : ∃ n, W n a1 a2 a3 :=
  loop_m (σ := A1 × A2 × A3) (fun n s => W n s.1 s.2.1 s.2.2) (fun s => I s.1 s.2.1 s.2.2) (fun s => μ s.1 s.2.1 s.2.2) (fun n s hI hk => hs n s.1 s.2.1 s.2.2 hI (fun b1 b2 b3 h9 hm => hk (b1, b2, b3) h9 hm)) (a1, a2, a3) h
theorem lp4 {A1 A2 A3 A4 : Type} (W : Nat → A1 → A2 → A3 → A4 → Prop) (I : A1 → A2 → A3 → A4 → Prop) (μ : A1 → A2 → A3 → A4 → Nat) (hs : ∀ (n : Nat) (a1 : A1) (a2 : A2) (a3 : A3) (a4 : A4), I a1 a2 a3 a4 → (∀ (b1 : A1) (b2 : A2) (b3 : A3) (b4 : A4), I b1 b2 b3 b4 → μ b1 b2 b3 b4 < μ a1 a2 a3 a4 → W n b1 b2 b3 b4) → W (n + 1) a1 a2 a3 a4) (a1 : A1) (a2 : A2) (a3 : A3) (a4 : A4) (h : I a1 a2 a3 a4) : ∃ n, W n a1 a2 a3 a4 :=
  loop_m (σ := A1 × A2 × A3 × A4) (fun n s => W n s.1 s.2.1 s.2.2.1 s.2.2.2) (fun s => I s.1 s.2.1 s.2.2.1 s.2.2.2) (fun s => μ s.1 s.2.1 s.2.2.1 s.2.2.2) (fun n s hI hk => hs n s.1 s.2.1 s.2.2.1 s.2.2.2 hI (fun b1 b2 b3 b4 h9 hm => hk (b1, b2, b3, b4) h9 hm)) (a1, a2, a3, a4) h
theorem lp5 {A1 A2 A3 A4 A5 : Type} (W : Nat → A1 → A2 → A3 → A4 → A5 → Prop) (I : A1 → A2 → A3 → A4 → A5 → Prop) (μ : A1 → A2 → A3 → A4 → A5 → Nat) (hs : ∀ (n : Nat) (a1 : A1) (a2 : A2) (a3 : A3) (a4 : A4) (a5 : A5), I a1 a2 a3 a4 a5 → (∀ (b1 : A1) (b2 : A2) (b3 : A3) (b4 : A4) (b5 : A5), I b1 b2 b3 b4 b5 → μ b1 b2 b3 b4 b5 < μ a1 a2 a3 a4 a5 → W n b1 b2 b3 b4 b5) → W (n + 1) a1 a2 a3 a4 a5) (a1 : A1) (a2 : A2) (a3 : A3) (a4 : A4) (a5 : A5) (h : I a1 a2 a3 a4 a5) : ∃ n, W n a1 a2 a3 a4 a5 :=
  loop_m (σ := A1 × A2 × A3 × A4 × A5) (fun n s => W n s.1 s.2.1 s.2.2.1 s.2.2.2.1 s.2.2.2.2) (fun s => I s.1 s.2.1 s.2.2.1 s.2.2.2.1 s.2.2.2.2) (fun s => μ s.1 s.2.1 s.2.2.1 s.2.2.2.1 s.2.2.2.2) (fun n s hI hk => hs n s.1 s.2.1 s.2.2.1 s.2.2.2.1 s.2.2.2.2 hI (fun b1 b2 b3 b4 b5 h9 hm => hk (b1, b2, b3, b4, b5) h9 hm)) (a1, a2, a3, a4, a5) h
theorem lp6 {A1 A2 A3 A4 A5 A6 : Type} (W : Nat → A1 → A2 → A3 → A4 → A5 → A6 → Prop) (I : A1 → A2 → A3 → A4 → A5 → A6 → Prop) (μ : A1 → A2 → A3 → A4 → A5 → A6 → Nat) (hs : ∀ (n : Nat) (a1 : A1) (a2 : A2) (a3 : A3) (a4 : A4) (a5 : A5) (a6 : A6), I a1 a2 a3 a4 a5 a6 → (∀ (b1 : A1) (b2 : A2) (b3 : A3) (b4 : A4) (b5 : A5) (b6 : A6), I b1 b2 b3 b4 b5 b6 → μ b1 b2 b3 b4 b5 b6 < μ a1 a2 a3 a4 a5 a6 → W n b1 b2 b3 b4 b5 b6) → W (n + 1) a1 a2 a3 a4 a5 a6) (a1 : A1) (a2 : A2) (a3 : A3) (a4 : A4) (a5 : A5) (a6 : A6) (h : I a1 a2 a3 a4 a5 a6) : ∃ n, W n a1 a2 a3 a4 a5 a6 :=
  loop_m (σ := A1 × A2 × A3 × A4 × A5 × A6) (fun n s => W n s.1 s.2.1 s.2.2.1 s.2.2.2.1 s.2.2.2.2.1 s.2.2.2.2.2) (fun s => I s.1 s.2.1 s.2.2.1 s.2.2.2.1 s.2.2.2.2.1 s.2.2.2.2.2) (fun s => μ s.1 s.2.1 s.2.2.1 s.2.2.2.1 s.2.2.2.2.1 s.2.2.2.2.2) (fun n s hI hk => hs n s.1 s.2.1 s.2.2.1 s.2.2.2.1 s.2.2.2.2.1 s.2.2.2.2.2 hI (fun b1 b2 b3 b4 b5 b6 h9 hm => hk (b1, b2, b3, b4, b5, b6) h9 hm)) (a1, a2, a3, a4, a5, a6) h
def bt (x : Int32) (i : Nat) : Bool := x.toBitVec.getLsbD i
theorem b_ext {x y : Int32} (h : ∀ i, i < 32 → bt x i = bt y i) : x = y := Int32.toBitVec_inj.mp (BitVec.eq_of_getLsbD_eq (fun i hi => h i hi))
theorem b_or (x y : Int32) (i : Nat) : bt (x ||| y) i = (bt x i || bt y i) := by unfold bt; rw [Int32.toBitVec_or, BitVec.getLsbD_or]
theorem b_and (x y : Int32) (i : Nat) : bt (x &&& y) i = (bt x i && bt y i) := by unfold bt; rw [Int32.toBitVec_and, BitVec.getLsbD_and]
theorem b_xor (x y : Int32) (i : Nat) : bt (x ^^^ y) i = (bt x i ^^ bt y i) := by unfold bt; rw [Int32.toBitVec_xor, BitVec.getLsbD_xor]
theorem b_big {x : Int32} {i : Nat} (h : 32 ≤ i) : bt x i = false := BitVec.getLsbD_of_ge _ _ h
theorem b_m1 : ∀ i, i < 32 → bt (-1) i = true := by decide +kernel
theorem b_0 (i : Nat) : bt 0 i = false := BitVec.getLsbD_zero
theorem s_l : ∀ n, n < 32 → ((nI n &&& 31).toBitVec.smod 32).toNat = n := by decide +kernel
theorem b_shl (n : Nat) (hn : n < 32) (x : Int32) {i : Nat} (hi : i < 32) : bt (x <<< (nI n &&& 31)) i = (decide (n ≤ i) && bt x (i - n)) := by
  unfold bt
  rw [Int32.toBitVec_shiftLeft]
  show (x.toBitVec <<< ((nI n &&& 31).toBitVec.smod 32).toNat).getLsbD i = _
  rw [s_l n hn, BitVec.getLsbD_shiftLeft]
  rcases Nat.lt_or_ge i n with h | h
  · simp [h, Nat.not_le.mpr h]
  · simp [hi, h, Nat.not_lt.mpr h]
theorem b_sshr (n : Nat) (hn : n < 32) (x : Int32) {i : Nat} (hi : i < 32) : bt (x >>> (nI n &&& 31)) i = if n + i < 32 then bt x (n + i) else bt x 31 := by
  unfold bt
  rw [Int32.toBitVec_shiftRight]
  show (x.toBitVec.sshiftRight ((nI n &&& 31).toBitVec.smod 32).toNat).getLsbD i = _
  rw [s_l n hn, BitVec.getLsbD_sshiftRight, BitVec.msb_eq_getLsbD_last]
  simp [hi]
end
section
/-! masks by their bits, and lists of nodes in either direction -/
theorem ms_1 : ∀ n, n < 32 → ∀ i, i < 32 → bt ((1 : Int32) <<< (nI n &&& 31)) i = decide (i = n) := by decide +kernel
theorem ms_one : ∀ i, i < 32 → bt 1 i = decide (i = 0) := by decide +kernel
theorem ms_tst (x : Int32) {n : Nat} (hn : n < 32) : (x >>> (nI n &&& 31)) &&& 1 = if bt x n = true then 1 else 0 := by
  apply b_ext
  intro i hi
  rw [b_and, b_sshr n hn x hi, ms_one i hi]
  by_cases h0 : i = 0
  · subst h0
    rw [if_pos (show n + 0 < 32 by omega), Nat.add_zero]
    cases h : bt x n
    · rw [if_neg (by decide)]; decide
    · rw [if_pos rfl]; decide
  · rw [decide_eq_false h0, Bool.and_false]
    cases bt x n
    · rw [if_neg (by decide), b_0]
    · rw [if_pos rfl, ms_one i hi, decide_eq_false h0]
theorem ms_t {x : Int32} {n : Nat} (hn : n < 32) (h : bt x n = true) : ¬ (x >>> (nI n &&& 31)) &&& 1 = 0 := by
  rw [ms_tst x hn, if_pos h]; decide
theorem ms_f {x : Int32} {n : Nat} (hn : n < 32) (h : bt x n = false) : (x >>> (nI n &&& 31)) &&& 1 = 0 := by
  rw [ms_tst x hn, if_neg (by rw [h]; decide)]
theorem ms_not (x : Int32) {i : Nat} (hi : i < 32) : bt (x ^^^ (-1)) i = !bt x i := by
  rw [b_xor, b_m1 i hi]; cases bt x i <;> rfl
theorem ms_set (x : Int32) {n i : Nat} (hn : n < 32) (hi : i < 32) : bt (x ||| ((1 : Int32) <<< (nI n &&& 31))) i = (bt x i || decide (i = n)) := by
  rw [b_or, ms_1 n hn i hi]
/-- the nodes 0 .. n - 1 in the order of the document, or against it -/
def ls_T (back : Bool) (n : Nat) : List Nat := if back = true then (List.range n).reverse else List.range n
/-- those that g leaves, with the positions behind p -/
def ls_f (g : Nat → Nat → Bool) : Nat → List Nat → List Nat
  | _, [] => []
  | p, m :: L => if g m (p + 1) = true then m :: ls_f g (p + 1) L else ls_f g (p + 1) L
theorem ls_T24 : ∀ back : Bool, ∀ t, t < 24 → (ls_T back 24).drop t = (if back = true then 23 - t else t) :: (ls_T back 24).drop (t + 1) := by decide +kernel
theorem ls_T24n : ∀ back : Bool, (ls_T back 24).Nodup := by decide +kernel
theorem ls_Tm (back : Bool) (n m : Nat) : m ∈ ls_T back n ↔ m < n := by
  unfold ls_T
  cases back <;> simp
theorem ls_Tn {S : Nat → Bool} {n : Nat} (hS : ∀ m, S m = true → m < n) : ∀ d, (List.range (n + d)).filter S = (List.range n).filter S
  | 0 => rfl
  | d + 1 => by
    have e : n + (d + 1) = (n + d) + 1 := rfl
    rw [e, List.range_succ, List.filter_append, ls_Tn hS d]
    have : [n + d].filter S = [] := by
      rw [List.filter_eq_nil_iff]
      intro a ha
      have : a = n + d := by simpa using ha
      subst this
      intro h
      have := hS _ h
      omega
    rw [this, List.append_nil]
theorem ls_TS {S : Nat → Bool} {n : Nat} (hn : n ≤ 24) (hS : ∀ m, S m = true → m < n) (back : Bool) : (ls_T back 24).filter S = (ls_T back n).filter S := by
  have h := ls_Tn hS (24 - n)
  rw [show n + (24 - n) = 24 by omega] at h
  unfold ls_T
  cases back
  · exact h
  · simp only [if_true, List.filter_reverse]
    rw [h]
theorem ls_fm {g : Nat → Nat → Bool} {m : Nat} : ∀ {L : List Nat} {p : Nat}, m ∈ ls_f g p L → m ∈ L
  | [], _, h => h
  | a :: L, p, h => by
    rw [ls_f] at h
    by_cases hg : g a (p + 1) = true
    · rw [if_pos hg] at h
      rcases List.mem_cons.mp h with e | e
      · exact List.mem_cons.mpr (Or.inl e)
      · exact List.mem_cons.mpr (Or.inr (ls_fm e))
    · rw [if_neg hg] at h
      exact List.mem_cons.mpr (Or.inr (ls_fm h))
theorem ls_fl {g : Nat → Nat → Bool} : ∀ {L : List Nat} {p : Nat}, (ls_f g p L).length ≤ L.length
  | [], _ => Nat.le_refl _
  | a :: L, p => by
    rw [ls_f]
    have := ls_fl (g := g) (L := L) (p := p + 1)
    by_cases hg : g a (p + 1) = true
    · rw [if_pos hg]; simp only [List.length_cons]; omega
    · rw [if_neg hg]; simp only [List.length_cons]; omega
/-- what is left, found again among all by its members -/
theorem ls_back {g : Nat → Nat → Bool} {b : Nat → Bool} : ∀ (T : List Nat) (p : Nat), T.Nodup → T.filter (fun m => decide (m ∈ ls_f g p (T.filter b))) = ls_f g p (T.filter b)
  | [], _, _ => rfl
  | a :: T, p, h => by
    obtain ⟨ha, hT⟩ := List.nodup_cons.mp h
    have na : ∀ q, a ∉ ls_f g q (T.filter b) := fun q z => ha (List.mem_filter.mp (ls_fm z)).1
    by_cases hb : b a = true
    · have e : (a :: T).filter b = a :: T.filter b := List.filter_cons_of_pos hb
      rw [e, ls_f]
      by_cases hg : g a (p + 1) = true
      · rw [if_pos hg, List.filter_cons_of_pos (by simp)]
        refine congrArg (List.cons a) (Eq.trans (List.filter_congr ?_) (ls_back T (p + 1) hT))
        intro m hm
        have ne : m ≠ a := fun z => ha (z ▸ hm)
        simp [ne]
      · rw [if_neg hg, List.filter_cons_of_neg (by simpa using na (p + 1))]
        exact ls_back T (p + 1) hT
    · have e : (a :: T).filter b = T.filter b := List.filter_cons_of_neg hb
      rw [e, List.filter_cons_of_neg (by simpa using na p)]
      exact ls_back T p hT
/-- a mask of nodes below 24, and its nodes in a direction -/
def ls_of (back : Bool) (x : Int32) : List Nat := (ls_T back 24).filter (bt x)
theorem ls_ofm {back : Bool} {x : Int32} {m : Nat} : m ∈ ls_of back x ↔ m < 24 ∧ bt x m = true := by
  unfold ls_of
  rw [List.mem_filter, ls_Tm]
theorem ls_next {g : Nat → Nat → Bool} {back : Bool} {x y : Int32} (h : ∀ i, i < 32 → (bt y i = true ↔ i ∈ ls_f g 0 (ls_of back x))) : ls_of back y = ls_f g 0 (ls_of back x) := by
  have a := ls_back (g := g) (b := bt x) (ls_T back 24) 0 (ls_T24n back)
  unfold ls_of at h ⊢
  refine Eq.trans (List.filter_congr ?_) a
  intro m hm
  have hm' := (ls_Tm back 24 m).mp hm
  have := h m (by omega)
  cases hy : bt y m
  · rw [hy] at this
    exact (decide_eq_false (fun z => nomatch this.mpr z)).symm
  · exact (decide_eq_true (this.mp hy)).symm
end
section
/-! the document: ancestors, axes -/
/-- a is a proper ancestor of m -/
def tr_ab (P : Nat → Int32) : Nat → Nat → Nat → Bool
  | 0, _, _ => false
  | f + 1, a, m => if P m < 0 then false else if (P m).toNatClampNeg = a then true else tr_ab P f a (P m).toNatClampNeg
def tr_T (P : Nat → Int32) (n : Nat) : Prop := n ≤ 24 ∧ ∀ i, i < n → (i = 0 ∧ P i = -1) ∨ (0 < i ∧ ∃ p, p < i ∧ P i = nI p)
theorem tr_m1 : ((-1 : Int32) < 0) := by decide
theorem tr_root {P : Nat → Int32} {n m : Nat} (T : tr_T P n) (hm : m < n) (h : P m < 0) : m = 0 ∧ P m = -1 := by
  rcases T.2 m hm with z | ⟨_, p, hp, e⟩
  · exact z
  · rw [e] at h
    exact absurd h (nI_pos (by have := T.1; omega))
theorem tr_par {P : Nat → Int32} {n m : Nat} (T : tr_T P n) (hm : m < n) (h : ¬ P m < 0) : ∃ p, p < m ∧ P m = nI p := by
  rcases T.2 m hm with ⟨_, e⟩ | ⟨_, p, hp, e⟩
  · rw [e] at h
    exact absurd tr_m1 h
  · exact ⟨p, hp, e⟩
theorem tr_ab0 {P : Nat → Int32} {f a m : Nat} (h : P m < 0) : tr_ab P f a m = false := by
  cases f with
  | zero => rfl
  | succ f => rw [tr_ab, if_pos h]
theorem tr_abf {P : Nat → Int32} {n a : Nat} (T : tr_T P n) : ∀ f g m, m < n → m ≤ f → m ≤ g → tr_ab P f a m = tr_ab P g a m := by
  intro f
  induction f with
  | zero =>
    intro g m hm h1 _
    have e : m = 0 := by omega
    subst e
    have h : P 0 < 0 := by
      rcases T.2 0 hm with z | z
      · rw [z.2]; exact tr_m1
      · exact absurd z.1 (by omega)
    rw [tr_ab0 h, tr_ab0 h]
  | succ f ih =>
    intro g m hm h1 h2
    by_cases h : P m < 0
    · rw [tr_ab0 h, tr_ab0 h]
    · obtain ⟨p, hp, e⟩ := tr_par T hm h
      obtain ⟨g, rfl⟩ : ∃ x, g = x + 1 := ⟨g - 1, by omega⟩
      have c : (P m).toNatClampNeg = p := by rw [e]; exact nI_clamp (by have := T.1; omega)
      rw [tr_ab, tr_ab, c, ih g p (by omega) (by omega) (by omega)]
/-- proper ancestors, with fuel enough -/
def tr_a (P : Nat → Int32) (a m : Nat) : Bool := tr_ab P 24 a m
theorem tr_a0 {P : Nat → Int32} {a m : Nat} (h : P m < 0) : tr_a P a m = false := tr_ab0 h
theorem tr_as {P : Nat → Int32} {n a m p : Nat} (T : tr_T P n) (hm : m < n) (hp : p < m) (e : P m = nI p) : tr_a P a m = (decide (p = a) || tr_a P a p) := by
  have hn := T.1
  have h : ¬ P m < 0 := by rw [e]; exact nI_pos (by omega)
  have c : (P m).toNatClampNeg = p := by rw [e]; exact nI_clamp (by omega)
  show tr_ab P (23 + 1) a m = _
  rw [tr_ab, if_neg h, c, tr_abf T 23 24 p (by omega) (by omega) (by omega)]
  by_cases z : p = a
  · rw [if_pos z, decide_eq_true z, Bool.true_or]
  · rw [if_neg z, decide_eq_false z, Bool.false_or]; rfl
theorem tr_alt {P : Nat → Int32} {n a : Nat} (T : tr_T P n) : ∀ m, m < n → tr_a P a m = true → a < m := by
  intro m
  induction m using Nat.strongRecOn with
  | _ m ih =>
    intro hm h
    by_cases z : P m < 0
    · rw [tr_a0 z] at h; exact nomatch h
    · obtain ⟨p, hp, e⟩ := tr_par T hm z
      rw [tr_as T hm hp e, Bool.or_eq_true, decide_eq_true_eq] at h
      rcases h with h | h
      · omega
      · have := ih p hp (by omega) h; omega
/-- from above: a child of a is m or an ancestor of it -/
theorem tr_top {P : Nat → Int32} {n a : Nat} (T : tr_T P n) : ∀ m, m < n → tr_a P a m = true → ∃ c, c < n ∧ P c = nI a ∧ (m = c ∨ tr_a P c m = true) := by
  intro m
  induction m using Nat.strongRecOn with
  | _ m ih =>
    intro hm h
    by_cases z : P m < 0
    · rw [tr_a0 z] at h; exact nomatch h
    · obtain ⟨p, hp, e⟩ := tr_par T hm z
      rw [tr_as T hm hp e, Bool.or_eq_true, decide_eq_true_eq] at h
      rcases h with h | h
      · exact ⟨m, hm, by rw [e, h], Or.inl rfl⟩
      · obtain ⟨c, hc, ec, h2⟩ := ih p hp (by omega) h
        refine ⟨c, hc, ec, Or.inr ?_⟩
        rw [tr_as T hm hp e, Bool.or_eq_true, decide_eq_true_eq]
        exact h2
theorem tr_tr {P : Nat → Int32} {n a c : Nat} (T : tr_T P n) (hc : c < n) (ha : a < c) (e0 : P c = nI a) : ∀ m, m < n → (m = c ∨ tr_a P c m = true) → tr_a P a m = true := by
  intro m
  induction m using Nat.strongRecOn with
  | _ m ih =>
    intro hm h
    rcases h with rfl | h
    · rw [tr_as T hm ha e0, decide_eq_true rfl, Bool.true_or]
    · by_cases z : P m < 0
      · rw [tr_a0 z] at h; exact nomatch h
      · obtain ⟨p, hp, e⟩ := tr_par T hm z
        rw [tr_as T hm hp e, Bool.or_eq_true, decide_eq_true_eq] at h
        rw [tr_as T hm hp e, ih p hp (by omega) h, Bool.or_true]
/-- m is on the axis of a -/
def tr_on (P : Nat → Int32) (ax a m : Nat) : Bool :=
  if ax = 0 then decide (m = a)
  else if ax = 1 then decide (P m = nI a)
  else if ax = 2 then decide (P a = nI m)
  else if ax = 3 then tr_a P a m
  else if ax = 4 then tr_a P m a
  else if ax = 5 then decide (P m = P a) && decide (a < m)
  else if ax = 6 then decide (P m = P a) && decide (m < a)
  else if ax = 7 then decide (a < m) && !tr_a P a m
  else decide (m < a) && !tr_a P m a
theorem tr_on0 (P : Nat → Int32) (a m : Nat) : tr_on P 0 a m = decide (m = a) := by
  unfold tr_on
  rw [if_pos rfl]
theorem tr_on1 (P : Nat → Int32) (a m : Nat) : tr_on P 1 a m = decide (P m = nI a) := by
  unfold tr_on
  rw [if_neg (by decide), if_pos rfl]
theorem tr_on2 (P : Nat → Int32) (a m : Nat) : tr_on P 2 a m = decide (P a = nI m) := by
  unfold tr_on
  rw [if_neg (by decide), if_neg (by decide), if_pos rfl]
theorem tr_on3 (P : Nat → Int32) (a m : Nat) : tr_on P 3 a m = tr_a P a m := by
  unfold tr_on
  rw [if_neg (by decide), if_neg (by decide), if_neg (by decide), if_pos rfl]
theorem tr_on4 (P : Nat → Int32) (a m : Nat) : tr_on P 4 a m = tr_a P m a := by
  unfold tr_on
  rw [if_neg (by decide), if_neg (by decide), if_neg (by decide), if_neg (by decide), if_pos rfl]
theorem tr_on5 (P : Nat → Int32) (a m : Nat) : tr_on P 5 a m = (decide (P m = P a) && decide (a < m)) := by
  unfold tr_on
  rw [if_neg (by decide), if_neg (by decide), if_neg (by decide), if_neg (by decide), if_neg (by decide), if_pos rfl]
theorem tr_on6 (P : Nat → Int32) (a m : Nat) : tr_on P 6 a m = (decide (P m = P a) && decide (m < a)) := by
  unfold tr_on
  rw [if_neg (by decide), if_neg (by decide), if_neg (by decide), if_neg (by decide), if_neg (by decide), if_neg (by decide), if_pos rfl]
theorem tr_on7 (P : Nat → Int32) (a m : Nat) : tr_on P 7 a m = (decide (a < m) && !tr_a P a m) := by
  unfold tr_on
  rw [if_neg (by decide), if_neg (by decide), if_neg (by decide), if_neg (by decide), if_neg (by decide), if_neg (by decide), if_neg (by decide), if_pos rfl]
theorem tr_on8 (P : Nat → Int32) (a m : Nat) : tr_on P 8 a m = (decide (m < a) && !tr_a P m a) := by
  unfold tr_on
  rw [if_neg (by decide), if_neg (by decide), if_neg (by decide), if_neg (by decide), if_neg (by decide), if_neg (by decide), if_neg (by decide), if_neg (by decide)]
/-- m is on the axis and passes the test of a STEP's value v -/
def tr_s (P N : Nat → Int32) (v a m : Nat) : Bool := (decide (v % 8 = 6) || decide (N m = nI (v % 8))) && tr_on P (v / 8) a m
end
section
/-! numbers, conditions, what a path selects: pure, over a table tb of cell and node -/
theorem gm_en_ge (K : Nat → Nat) : ∀ f m i, i ≤ gm_en K f m i := by
  intro f
  induction f with
  | zero => intro m i; exact Nat.le_refl _
  | succ f ih =>
    intro m i
    rw [gm_en]
    have a := ih 0 i
    have b := ih 0 (i + 1)
    have c := ih 1 (i + 1)
    have d := ih 2 (i + 1)
    have e := ih 1 (gm_en K f 0 i)
    have g := ih 2 (gm_en K f 0 i)
    have h := ih 0 (gm_en K f 0 (i + 1))
    have k := ih 0 (gm_en K f 1 (i + 1))
    have l := ih 2 (gm_en K f 0 (i + 1))
    repeat' split
    all_goals omega
def nu_c (t : Nat) (x y : Int32) : Int32 :=
  if t = 7 then x + y else if t = 8 then x - y else if t = 9 then x * y else if t = 10 then (if x < y then 1 else 0) else if t = 11 then (if x = y then 1 else 0)
  else if t = 12 then (if x ≠ 0 ∧ y ≠ 0 then 1 else 0) else (if x ≠ 0 ∨ y ≠ 0 then 1 else 0)
def nu_v (K : Nat → Nat) (O V : Nat → Int32) (tb : Nat → Nat → Int32) (nd : Nat) (ps sz : Int32) : Nat → Nat → Int32
  | 0, _ => 0
  | f + 1, c =>
    if K c = 0 then O c else if K c = 1 then ps else if K c = 2 then sz else if K c = 3 then V nd
    else if K c ≤ 6 then tb c nd
    else if K c ≤ 13 then nu_c (K c) (nu_v K O V tb nd ps sz f (c + 1)) (nu_v K O V tb nd ps sz f (gm_e K (c + 1)))
    else if K c = 14 then (if nu_v K O V tb nd ps sz f (c + 1) = 0 then 1 else 0)
    else 0
abbrev nu_n (K : Nat → Nat) (O V : Nat → Int32) (tb : Nat → Nat → Int32) (nd : Nat) (ps sz : Int32) (c : Nat) : Int32 := nu_v K O V tb nd ps sz 64 c
theorem nu_vf {K : Nat → Nat} {len : Nat} (W : gm_W K len) (O V : Nat → Int32) (tb : Nat → Nat → Int32) (nd : Nat) (ps sz : Int32) : ∀ f g c, c < len → 32 ≤ f + c → 32 ≤ g + c → nu_v K O V tb nd ps sz f c = nu_v K O V tb nd ps sz g c := by
  intro f
  induction f with
  | zero => intro g c hc h; have := W.1; omega
  | succ f ih =>
    intro g c hc h1 h2
    have hl := W.1
    obtain ⟨g, rfl⟩ : ∃ x, g = x + 1 := ⟨g - 1, by omega⟩
    have L := W.2.2 c hc
    rw [nu_v, nu_v]
    by_cases k6 : K c ≤ 6
    · simp only [if_pos k6]
    · by_cases k13 : K c ≤ 13
      · obtain ⟨a1, a2, a3, a4, a5⟩ := L.2.2.2.2.2.1 ⟨by omega, k13⟩
        have b := L.2.1
        have e1 := ih g (c + 1) (by omega) (by omega) (by omega)
        have e2 := ih g (gm_e K (c + 1)) (by omega) (by omega) (by omega)
        rw [e1, e2]
      · by_cases k14 : K c = 14
        · obtain ⟨a1, a2, a3⟩ := L.2.2.2.2.2.2.1 k14
          have b := L.2.1
          rw [ih g (c + 1) (by omega) (by omega) (by omega)]
          simp only [if_neg k13]
        · simp only [if_neg k13, if_neg k14]
theorem nu_n0 {K : Nat → Nat} {O V : Nat → Int32} {tb : Nat → Nat → Int32} {nd : Nat} {ps sz : Int32} {c : Nat} (h : K c = 0) : nu_n K O V tb nd ps sz c = O c := by
  show nu_v K O V tb nd ps sz (63 + 1) c = _
  rw [nu_v, if_pos h]
theorem nu_n1 {K : Nat → Nat} {O V : Nat → Int32} {tb : Nat → Nat → Int32} {nd : Nat} {ps sz : Int32} {c : Nat} (h : K c = 1) : nu_n K O V tb nd ps sz c = ps := by
  show nu_v K O V tb nd ps sz (63 + 1) c = _
  rw [nu_v, if_neg (by omega), if_pos h]
theorem nu_n2 {K : Nat → Nat} {O V : Nat → Int32} {tb : Nat → Nat → Int32} {nd : Nat} {ps sz : Int32} {c : Nat} (h : K c = 2) : nu_n K O V tb nd ps sz c = sz := by
  show nu_v K O V tb nd ps sz (63 + 1) c = _
  rw [nu_v, if_neg (by omega), if_neg (by omega), if_pos h]
theorem nu_n3 {K : Nat → Nat} {O V : Nat → Int32} {tb : Nat → Nat → Int32} {nd : Nat} {ps sz : Int32} {c : Nat} (h : K c = 3) : nu_n K O V tb nd ps sz c = V nd := by
  show nu_v K O V tb nd ps sz (63 + 1) c = _
  rw [nu_v, if_neg (by omega), if_neg (by omega), if_neg (by omega), if_pos h]
theorem nu_n6 {K : Nat → Nat} {O V : Nat → Int32} {tb : Nat → Nat → Int32} {nd : Nat} {ps sz : Int32} {c : Nat} (h : 4 ≤ K c) (h6 : K c ≤ 6) : nu_n K O V tb nd ps sz c = tb c nd := by
  show nu_v K O V tb nd ps sz (63 + 1) c = _
  rw [nu_v, if_neg (by omega), if_neg (by omega), if_neg (by omega), if_neg (by omega), if_pos h6]
theorem nu_n13 {K : Nat → Nat} {len : Nat} (W : gm_W K len) {O V : Nat → Int32} {tb : Nat → Nat → Int32} {nd : Nat} {ps sz : Int32} {c : Nat} (hc : c < len) (h : 7 ≤ K c) (h6 : K c ≤ 13) : nu_n K O V tb nd ps sz c = nu_c (K c) (nu_n K O V tb nd ps sz (c + 1)) (nu_n K O V tb nd ps sz (gm_e K (c + 1))) := by
  have L := W.2.2 c hc
  obtain ⟨a1, a2, a3, a4, a5⟩ := L.2.2.2.2.2.1 ⟨h, h6⟩
  have b := L.2.1
  show nu_v K O V tb nd ps sz (63 + 1) c = _
  rw [nu_v, if_neg (by omega), if_neg (by omega), if_neg (by omega), if_neg (by omega), if_neg (by omega), if_pos h6,
    nu_vf W O V tb nd ps sz 63 64 (c + 1) (by omega) (by omega) (by omega), nu_vf W O V tb nd ps sz 63 64 (gm_e K (c + 1)) (by omega) (by omega) (by omega)]
theorem nu_n14 {K : Nat → Nat} {len : Nat} (W : gm_W K len) {O V : Nat → Int32} {tb : Nat → Nat → Int32} {nd : Nat} {ps sz : Int32} {c : Nat} (hc : c < len) (h : K c = 14) : nu_n K O V tb nd ps sz c = if nu_n K O V tb nd ps sz (c + 1) = 0 then 1 else 0 := by
  have L := W.2.2 c hc
  obtain ⟨a1, a2, a3⟩ := L.2.2.2.2.2.2.1 h
  have b := L.2.1
  show nu_v K O V tb nd ps sz (63 + 1) c = _
  rw [nu_v, if_neg (by omega), if_neg (by omega), if_neg (by omega), if_neg (by omega), if_neg (by omega), if_neg (by omega), if_pos h,
    nu_vf W O V tb nd ps sz 63 64 (c + 1) (by omega) (by omega) (by omega)]
/-- the list that a row of conditions from c on leaves of L -/
def nu_cd (K : Nat → Nat) (O V : Nat → Int32) (tb : Nat → Nat → Int32) : Nat → Nat → List Nat → List Nat
  | 0, _, L => L
  | f + 1, c, L => if K c = 16 then nu_cd K O V tb f (gm_e K c) (ls_f (fun m p => decide (nu_n K O V tb m (nI p) (nI L.length) (c + 1) ≠ 0)) 0 L) else L
theorem nu_cdm {K : Nat → Nat} {O V : Nat → Int32} {tb : Nat → Nat → Int32} {m : Nat} : ∀ {f c : Nat} {L : List Nat}, m ∈ nu_cd K O V tb f c L → m ∈ L
  | 0, _, _, h => h
  | f + 1, c, L, h => by
    rw [nu_cd] at h
    by_cases k : K c = 16
    · rw [if_pos k] at h
      exact ls_fm (nu_cdm h)
    · rw [if_neg k] at h
      exact h
theorem nu_vc {K : Nat → Nat} {O V : Nat → Int32} {tb tb' : Nat → Nat → Int32} {nd : Nat} {ps sz : Int32} {c0 : Nat} (h : ∀ x a, c0 ≤ x → tb x a = tb' x a) : ∀ f c, c0 ≤ c → nu_v K O V tb nd ps sz f c = nu_v K O V tb' nd ps sz f c := by
  intro f
  induction f with
  | zero => intro c _; rfl
  | succ f ih =>
    intro c hc
    have g : c + 1 ≤ gm_e K (c + 1) := gm_en_ge K 64 0 (c + 1)
    rw [nu_v, nu_v, ih (c + 1) (by omega), ih (gm_e K (c + 1)) (by omega), h c nd hc]
theorem nu_cdc {K : Nat → Nat} {O V : Nat → Int32} {tb tb' : Nat → Nat → Int32} {c0 : Nat} (h : ∀ x a, c0 ≤ x → tb x a = tb' x a) : ∀ f c L, c0 ≤ c → nu_cd K O V tb f c L = nu_cd K O V tb' f c L := by
  intro f
  induction f with
  | zero => intro c L _; rfl
  | succ f ih =>
    intro c L hc
    have g : c ≤ gm_e K c := gm_en_ge K 64 0 c
    have e : (fun m p => decide (nu_n K O V tb m (nI p) (nI L.length) (c + 1) ≠ 0)) = (fun m p => decide (nu_n K O V tb' m (nI p) (nI L.length) (c + 1) ≠ 0)) := by
      funext m p
      rw [nu_n, nu_n, nu_vc h 64 (c + 1) (by omega)]
    rw [nu_cd, nu_cd, e, ih _ _ (by omega)]
theorem nu_cd_ge {K : Nat → Nat} {len q : Nat} : ∀ {f i : Nat}, gm_cd K len f i q → i ≤ q ∧ K q ≠ 16
  | 0, i, h => by rw [gm_cd] at h; exact ⟨Nat.le_of_eq h.1, h.1 ▸ h.2⟩
  | f + 1, i, h => by
    rcases h with h | ⟨a, b, c, d, h⟩
    · exact ⟨Nat.le_of_eq h.1, h.1 ▸ h.2⟩
    · have := nu_cd_ge h
      exact ⟨by omega, this.2⟩
theorem nu_cd_u {K : Nat → Nat} {len q q' : Nat} : ∀ {f g i : Nat}, gm_cd K len f i q → gm_cd K len g i q' → q = q' := by
  intro f
  induction f with
  | zero =>
    intro g i h h'
    cases g with
    | zero => exact h.1.symm.trans h'.1
    | succ g =>
      rcases h' with h' | h'
      · exact h.1.symm.trans h'.1
      · exact absurd h'.1 h.2
  | succ f ih =>
    intro g i h h'
    rcases h with h | ⟨a, b, c, d, h⟩
    · cases g with
      | zero => exact h.1.symm.trans h'.1
      | succ g =>
        rcases h' with h' | h'
        · exact h.1.symm.trans h'.1
        · exact absurd h'.1 h.2
    · cases g with
      | zero => exact absurd a h'.2
      | succ g =>
        rcases h' with h' | ⟨a', b', c', d', h'⟩
        · exact absurd a h'.2
        · exact ih h h'
theorem nu_cdf {K : Nat → Nat} {len q : Nat} {O V : Nat → Int32} {tb : Nat → Nat → Int32} : ∀ {d i : Nat} {L : List Nat} (f g : Nat), gm_cd K len d i q → q ≤ i + f → q ≤ i + g → nu_cd K O V tb f i L = nu_cd K O V tb g i L := by
  intro d
  induction d with
  | zero =>
    intro i L f g h _ _
    cases f <;> cases g <;> simp only [nu_cd, if_neg h.2]
  | succ d ih =>
    intro i L f g h h1 h2
    rcases h with h | ⟨a, b, c, e, h⟩
    · cases f <;> cases g <;> simp only [nu_cd, if_neg h.2]
    · obtain ⟨f, rfl⟩ : ∃ x, f = x + 1 := ⟨f - 1, by omega⟩
      obtain ⟨g, rfl⟩ : ∃ x, g = x + 1 := ⟨g - 1, by omega⟩
      rw [nu_cd, nu_cd, if_pos a, if_pos a]
      exact ih f g h (by omega) (by omega)
abbrev nu_o (O : Nat → Int32) (c : Nat) : Nat := (O c).toNatClampNeg
def nu_bk (ax : Nat) : Bool := decide (ax = 2 ∨ ax = 4 ∨ ax = 6 ∨ ax = 8)
/-- the list of the STEP at c from the node a, its conditions done -/
def nu_L (K : Nat → Nat) (O V P N : Nat → Int32) (n : Nat) (tb : Nat → Nat → Int32) (c a : Nat) : List Nat :=
  nu_cd K O V tb 32 (c + 1) ((ls_T (nu_bk (nu_o O c / 8)) n).filter (tr_s P N (nu_o O c) a))
theorem nu_Lm {K : Nat → Nat} {O V P N : Nat → Int32} {n : Nat} {tb : Nat → Nat → Int32} {c a m : Nat} (h : m ∈ nu_L K O V P N n tb c a) : m < n := by
  have := nu_cdm h
  rw [List.mem_filter, ls_Tm] at this
  exact this.1
/-- how many of the first k bits are set; the sum of the values there; the value of the first -/
def nu_cnt (x : Int32) : Nat → Nat
  | 0 => 0
  | k + 1 => nu_cnt x k + (if bt x k = true then 1 else 0)
def nu_sum (V : Nat → Int32) (x : Int32) : Nat → Int32
  | 0 => 0
  | k + 1 => nu_sum V x k + (if bt x k = true then V k else 0)
def nu_fst (V : Nat → Int32) (x : Int32) : Nat → Int32
  | 0 => 0
  | k + 1 => if nu_cnt x k = 0 then (if bt x k = true then V k else 0) else nu_fst V x k
def nu_m (V : Nat → Int32) (n t : Nat) (x : Int32) : Int32 := if t = 4 then nI (nu_cnt x n) else if t = 5 then nu_sum V x n else nu_fst V x n
theorem nu_cnt_le (x : Int32) : ∀ k, nu_cnt x k ≤ k
  | 0 => Nat.le_refl _
  | k + 1 => by rw [nu_cnt]; have := nu_cnt_le x k; split <;> omega
/-- what the table holds at the cell c, for each node -/
def nu_TE (K : Nat → Nat) (O V P N : Nat → Int32) (len n : Nat) (tb : Nat → Nat → Int32) (c : Nat) : Prop :=
  ∀ a, a < n →
    (K c = 15 → ∀ q, gm_cd K len (q - (c + 1)) (c + 1) q → ∀ i, i < 32 → (bt (tb c a) i = true ↔ (K q = 15 ∧ ∃ m, m ∈ nu_L K O V P N n tb c a ∧ bt (tb q m) i = true) ∨ (K q ≠ 15 ∧ i ∈ nu_L K O V P N n tb c a))) ∧
    (4 ≤ K c ∧ K c ≤ 6 → tb c a = nu_m V n (K c) (tb (c + 1) a))
theorem nu_TEc {K : Nat → Nat} {O V P N : Nat → Int32} {len n : Nat} {tb tb' : Nat → Nat → Int32} {c : Nat} (h : ∀ x a, c ≤ x → tb x a = tb' x a) (T : nu_TE K O V P N len n tb c) : nu_TE K O V P N len n tb' c := by
  intro a ha
  have eL : nu_L K O V P N n tb c a = nu_L K O V P N n tb' c a := nu_cdc (c0 := c) h 32 (c + 1) _ (by omega)
  refine ⟨fun hk q hq i hi => ?_, fun hk => ?_⟩
  · have g := (nu_cd_ge hq).1
    have t := (T a ha).1 hk q hq i hi
    rw [eL, h c a (Nat.le_refl _)] at t
    refine t.trans ⟨fun z => ?_, fun z => ?_⟩
    · rcases z with ⟨z1, m, hm, z2⟩ | z
      · exact Or.inl ⟨z1, m, hm, by rw [← h q m (by omega)]; exact z2⟩
      · exact Or.inr z
    · rcases z with ⟨z1, m, hm, z2⟩ | z
      · exact Or.inl ⟨z1, m, hm, by rw [h q m (by omega)]; exact z2⟩
      · exact Or.inr z
  · rw [← h c a (Nat.le_refl _), ← h (c + 1) a (by omega)]
    exact (T a ha).2 hk
/-- a selection holds nodes of the document alone -/
theorem nu_TEn' {K : Nat → Nat} {O V P N : Nat → Int32} {len n : Nat} {tb : Nat → Nat → Int32} (W : gm_W K len) (c0 : Nat) (hT : ∀ c, c0 ≤ c → c < len → nu_TE K O V P N len n tb c) : ∀ d c, c0 ≤ c → c + d = len → K c = 15 → ∀ a, a < n → ∀ i, i < 32 → bt (tb c a) i = true → i < n := by
  intro d
  induction d using Nat.strongRecOn with
  | _ d ih =>
    intro c h0 hc hk a ha i hi h
    have hcl : c < len := by
      rcases Nat.lt_or_ge c len with z | z
      · exact z
      · have := W.2.1 c z; omega
    have L := W.2.2 c hcl
    obtain ⟨q, C, h1, h2, _, h4, h5, _⟩ := L.2.2.2.2.2.2.2.1 hk
    have hl := L.2.1
    rcases ((hT c h0 hcl a ha).1 hk q C i hi).mp h with ⟨k15, m, hm, hb⟩ | ⟨_, hm⟩
    · have := (h4 k15).2
      exact ih (len - q) (by omega) q (by omega) (by omega) k15 m (nu_Lm hm) i hi hb
    · exact nu_Lm hm
end
section
/-! a stack of the numbers that stand from i to en, as an evaluation from the right holds them -/
theorem nu_cdn {K : Nat → Nat} {len q : Nat} : ∀ {f i : Nat}, gm_cd K len f i q → gm_cd K len (q - i) i q
  | 0, i, h => gm_cd_up 0 _ _ (Nat.zero_le _) h
  | f + 1, i, h => by
    rcases h with h | ⟨a, b, c, d, h⟩
    · exact gm_cd_up 0 _ _ (Nat.zero_le _) h
    · obtain ⟨g, hg⟩ : ∃ g, q - i = g + 1 := ⟨q - i - 1, by omega⟩
      rw [hg]
      exact Or.inr ⟨a, b, c, d, gm_cd_up _ _ _ (by omega) (nu_cdn h)⟩
def ch_pr (K : Nat → Nat) (len i h : Nat) : Prop := ∃ q, gm_cd K len (q - i) i q ∧ (K q = 15 → h = gm_e K q) ∧ (K q ≠ 15 → h = q)
theorem ch_pr_self {K : Nat → Nat} {len i : Nat} (h15 : K i ≠ 15) (h16 : K i ≠ 16) : ch_pr K len i i :=
  ⟨i, by rw [Nat.sub_self]; exact ⟨rfl, h16⟩, fun z => absurd z h15, fun _ => rfl⟩
theorem ch_pr_at {K : Nat → Nat} {len i h : Nat} (h15 : K i ≠ 15) (h16 : K i ≠ 16) (p : ch_pr K len i h) : h = i := by
  obtain ⟨q, C, _, b⟩ := p
  have e : q = i := nu_cd_u C (show gm_cd K len 0 i i from ⟨rfl, h16⟩)
  subst e
  exact b h15
theorem ch_pr_15 {K : Nat → Nat} {len i h : Nat} (h15 : K i = 15) (p : ch_pr K len i h) : h = gm_e K i := by
  obtain ⟨q, C, a, _⟩ := p
  have e : q = i := nu_cd_u C (show gm_cd K len 0 i i from ⟨rfl, by omega⟩)
  subst e
  exact a h15
theorem ch_pr_step {K : Nat → Nat} {len i h : Nat} (W : gm_W K len) (hi : i < len) (h15 : K i = 15) (p : ch_pr K len (i + 1) h) : ch_pr K len i h := by
  obtain ⟨q, C, a, b⟩ := p
  obtain ⟨q', C', h1, h2, h3, h4, h5, h6, h7⟩ := (W.2.2 i hi).2.2.2.2.2.2.2.1 h15
  have e := nu_cd_u C C'
  subst e
  refine ⟨i, by rw [Nat.sub_self]; exact ⟨rfl, by omega⟩, fun _ => ?_, fun z => absurd h15 z⟩
  by_cases k : K q = 15
  · rw [a k]; exact (h4 k).1.symm
  · rw [b k]; exact (h5 k).symm
theorem ch_pr_open {K : Nat → Nat} {len o i h : Nat} (hl : ∀ q, gm_cd K len (q - i) i q → q ≤ len) (ho : o < i) (k : K o = 16) (e : gm_e K o = i) (p : ch_pr K len i h) : ch_pr K len o h := by
  obtain ⟨q, C, a, b⟩ := p
  have g := (nu_cd_ge C).1
  refine ⟨q, ?_, a, b⟩
  obtain ⟨f, hf⟩ : ∃ f, q - o = f + 1 := ⟨q - o - 1, by omega⟩
  rw [hf]
  refine Or.inr ⟨k, by omega, by omega, hl q C, ?_⟩
  rw [e]
  exact gm_cd_up _ _ _ (by omega) C
def ch_C (K : Nat → Nat) (len en : Nat) (val : Nat → Int32) (w : Nat → Int32) : Nat → Nat → Prop
  | 0, i => ch_pr K len i en
  | t + 1, i => ∃ h, ch_pr K len i h ∧ i ≤ h ∧ h < en ∧ K h ≤ 14 ∧ w t = val h ∧ ch_C K len en val w t (gm_e K h)
theorem ch_Cw {K : Nat → Nat} {len en : Nat} {val w w' : Nat → Int32} : ∀ {t i : Nat}, (∀ j, j < t → w' j = w j) → ch_C K len en val w t i → ch_C K len en val w' t i
  | 0, _, _, h => h
  | t + 1, i, hw, ⟨h, a, b, c, d, e, f⟩ => ⟨h, a, b, c, d, by rw [hw t (by omega)]; exact e, ch_Cw (fun j hj => hw j (by omega)) f⟩
theorem ch_len {K : Nat → Nat} {len en : Nat} {val w : Nat → Int32} (W : gm_W K len) (hen : en ≤ len) : ∀ {t i : Nat}, i ≤ en → ch_C K len en val w t i → t + i ≤ en
  | 0, i, hi, _ => by omega
  | t + 1, i, hi, ⟨h, a, b, c, d, e, f⟩ => by
    have L := (W.2.2 h (by omega)).1
    rcases Nat.lt_or_ge en (gm_e K h) with z | z
    · cases t with
      | zero => omega
      | succ t =>
        obtain ⟨h2, _, b2, c2, _⟩ := f
        omega
    · have := ch_len W hen z f
      omega
theorem ch_push {K : Nat → Nat} {len en t i : Nat} {val w : Nat → Int32} {x : Int32} (hx : x = val i) (hi : i < en) (k : K i ≤ 14) (h : ch_C K len en val w t (gm_e K i)) : ch_C K len en val (upd w t x) (t + 1) i :=
  ⟨i, ch_pr_self (by omega) (by omega), Nat.le_refl _, hi, k, by rw [pk_us]; exact hx, ch_Cw (fun j hj => pk_un (by omega)) h⟩
theorem ch_path {K : Nat → Nat} {len en : Nat} {val w : Nat → Int32} (W : gm_W K len) {i : Nat} (hi : i < len) (h15 : K i = 15) : ∀ {t : Nat}, ch_C K len en val w t i → ch_C K len en val w t (gm_e K i) := by
  intro t h
  obtain ⟨q', C', h1, h2, h3, h4, h5, h6, h7⟩ := (W.2.2 i hi).2.2.2.2.2.2.2.1 h15
  cases t with
  | zero =>
    have e := ch_pr_15 h15 h
    show ch_pr K len (gm_e K i) en
    rw [e]
    exact ch_pr_self h6 h7
  | succ t =>
    obtain ⟨g, a, b, c, d, e, f⟩ := h
    have ge := ch_pr_15 h15 a
    subst ge
    exact ⟨_, ch_pr_self h6 h7, Nat.le_refl _, c, d, e, f⟩
theorem ch_head {K : Nat → Nat} {len en t i : Nat} {val w : Nat → Int32} (hi : i < en) (k : K i ≤ 14) (h : ch_C K len en val w t i) : ∃ s, t = s + 1 ∧ w s = val i ∧ ch_C K len en val w s (gm_e K i) := by
  cases t with
  | zero =>
    have := ch_pr_at (by omega) (by omega) h
    omega
  | succ t =>
    obtain ⟨g, a, b, c, d, e, f⟩ := h
    have ge := ch_pr_at (by omega) (by omega) a
    subst ge
    exact ⟨t, rfl, e, f⟩
theorem ch_step {K : Nat → Nat} {len en t i : Nat} {val w : Nat → Int32} (W : gm_W K len) (hi : i < len) (h15 : K i = 15) (h : ch_C K len en val w t (i + 1)) : ch_C K len en val w t i := by
  cases t with
  | zero => exact ch_pr_step W hi h15 h
  | succ t =>
    obtain ⟨g, a, b, c, d, e, f⟩ := h
    exact ⟨g, ch_pr_step W hi h15 a, by omega, c, d, e, f⟩
theorem ch_cdl {K : Nat → Nat} {len q : Nat} : ∀ {f i : Nat}, i ≤ len → gm_cd K len f i q → q ≤ len
  | 0, i, hi, h => by rw [gm_cd] at h; omega
  | f + 1, i, hi, h => by
    rcases h with h | ⟨a, b, c, d, h⟩
    · omega
    · exact d
theorem ch_close {K : Nat → Nat} {len en t i o : Nat} {val w : Nat → Int32} (hi : i < len) (ho : o < i + 1) (k : K o = 16) (eo : gm_e K o = i + 1) (h : ch_C K len en val w t (i + 1)) : ch_C K len en val w t o := by
  have hl : ∀ q, gm_cd K len (q - (i + 1)) (i + 1) q → q ≤ len := fun q C => ch_cdl (by omega) C
  cases t with
  | zero => exact ch_pr_open hl ho k eo h
  | succ t =>
    obtain ⟨g, a, b, c, d, e, f⟩ := h
    exact ⟨g, ch_pr_open hl ho k eo a, by omega, c, d, e, f⟩
theorem ch_end {K : Nat → Nat} {len en t i : Nat} {val w : Nat → Int32} (hi : i < en) (k : K i ≤ 14) (ee : gm_e K i = en) (h : ch_C K len en val w t i) : t = 1 ∧ w 0 = val i := by
  obtain ⟨s, e, v, f⟩ := ch_head hi k h
  cases s with
  | zero => exact ⟨e, v⟩
  | succ s =>
    obtain ⟨g, a, b, c, _⟩ := f
    omega
end
section
/-! COUNT, SUM, FIRST of a mask, from either end; the lowest bit -/
def me_t (V : Nat → Int32) (t : Nat) (x : Int32) : Nat → Int32 → Int32
  | 0, acc => acc
  | k + 1, acc => me_t V t x k (if bt x k = true then (if t = 4 then acc + 1 else if t = 5 then acc + V k else V k) else acc)
theorem me_t4 (V : Nat → Int32) (x : Int32) : ∀ k acc, me_t V 4 x k acc = acc + nI (nu_cnt x k)
  | 0, acc => by rw [me_t, nu_cnt, nI_0, Int32.add_zero]
  | k + 1, acc => by
    rw [me_t, me_t4 V x k, nu_cnt]
    by_cases h : bt x k = true
    · rw [if_pos h, if_pos h, if_pos rfl, ← nI_1, Int32.add_assoc, Int32.add_comm 1]
    · rw [if_neg h, if_neg h]; rfl
theorem me_t5 (V : Nat → Int32) (x : Int32) : ∀ k acc, me_t V 5 x k acc = acc + nu_sum V x k
  | 0, acc => by rw [me_t, nu_sum, Int32.add_zero]
  | k + 1, acc => by
    rw [me_t, me_t5 V x k, nu_sum]
    by_cases h : bt x k = true
    · rw [if_pos h, if_pos h, if_neg (by decide), if_pos rfl, Int32.add_assoc, Int32.add_comm (V k)]
    · rw [if_neg h, if_neg h, Int32.add_zero]
theorem me_f0 (V : Nat → Int32) (x : Int32) : ∀ k, nu_cnt x k = 0 → nu_fst V x k = 0
  | 0, _ => rfl
  | k + 1, h => by
    rw [nu_cnt] at h
    by_cases b : bt x k = true
    · rw [if_pos b] at h; omega
    · rw [nu_fst, if_pos (by omega), if_neg b]
theorem me_t6 (V : Nat → Int32) (x : Int32) {t : Nat} (h4 : t ≠ 4) (h5 : t ≠ 5) : ∀ k acc, me_t V t x k acc = if nu_cnt x k = 0 then acc else nu_fst V x k
  | 0, acc => by rw [me_t, nu_cnt, if_pos rfl]
  | k + 1, acc => by
    rw [me_t, me_t6 V x h4 h5 k, nu_cnt, nu_fst]
    by_cases b : bt x k = true
    · rw [if_pos b, if_neg h4, if_neg h5, if_pos b, if_neg (show ¬ nu_cnt x k + 1 = 0 by omega), if_pos b]
    · rw [if_neg b, if_neg b, Nat.add_zero]
      by_cases c : nu_cnt x k = 0
      · rw [if_pos c, if_pos c]
      · rw [if_neg c, if_neg c, if_neg c]
theorem me_m (V : Nat → Int32) (x : Int32) (t n : Nat) : me_t V t x n 0 = nu_m V n t x := by
  unfold nu_m
  by_cases h4 : t = 4
  · rw [if_pos h4, h4, me_t4, Int32.zero_add]
  · by_cases h5 : t = 5
    · rw [if_neg h4, if_pos h5, h5, me_t5, Int32.zero_add]
    · rw [if_neg h4, if_neg h5, me_t6 V x h4 h5]
      by_cases c : nu_cnt x n = 0
      · rw [if_pos c, me_f0 V x n c]
      · rw [if_neg c]
theorem me_hi {x : Int32} {n : Nat} (h : ∀ i, i < 32 → bt x i = true → i < n) : ∀ d, n + d ≤ 32 → nu_cnt x (n + d) = nu_cnt x n
  | 0, _ => rfl
  | d + 1, hd => by
    show nu_cnt x (n + d + 1) = _
    rw [nu_cnt, me_hi h d (by omega), if_neg, Nat.add_zero]
    intro z
    have := h (n + d) (by omega) z
    omega
theorem me_24 {x : Int32} {n : Nat} (hn : n ≤ 24) (h : ∀ i, i < 32 → bt x i = true → i < n) : nu_cnt x 24 = nu_cnt x n := by
  have := me_hi h (24 - n) (by omega)
  rwa [show n + (24 - n) = 24 by omega] at this
/-- f is the lowest bit of x -/
def me_low (x : Int32) (f : Nat) : Prop := f < 24 ∧ bt x f = true ∧ ∀ i, i < f → bt x i = false
theorem me_ex {x : Int32} {n : Nat} (hn : n ≤ 24) (h : ∀ i, i < 32 → bt x i = true → i < n) (h0 : x ≠ 0) : ∃ f, f < n ∧ me_low x f := by
  have e : ∃ k, bt x k = true ∧ k < 32 := by
    refine Classical.byContradiction fun z => h0 (b_ext fun i hi => ?_)
    rw [b_0]
    cases hb : bt x i
    · rfl
    · exact absurd ⟨i, hb, hi⟩ z
  obtain ⟨k, ⟨k1, k2⟩, kl⟩ := pk_least (fun k => bt x k = true ∧ k < 32) e
  have := h k k2 k1
  refine ⟨k, this, by omega, k1, fun i hi => ?_⟩
  cases hb : bt x i
  · rfl
  · exact absurd ⟨hb, by omega⟩ (kl i hi)
theorem me_c0 {x : Int32} {f : Nat} (h : ∀ i, i < f → bt x i = false) : ∀ k, k ≤ f → nu_cnt x k = 0
  | 0, _ => rfl
  | k + 1, hk => by rw [nu_cnt, me_c0 h k (by omega), h k (by omega)]; rfl
theorem me_fst {V : Nat → Int32} {x : Int32} {f : Nat} (h : me_low x f) : ∀ n, f < n → nu_fst V x n = V f ∧ nu_cnt x n ≠ 0
  | 0, hn => absurd hn (by omega)
  | n + 1, hn => by
    rw [nu_fst, nu_cnt]
    rcases Nat.eq_or_lt_of_le (Nat.le_of_lt_succ hn) with e | e
    · subst e
      rw [if_pos (me_c0 h.2.2 f (Nat.le_refl _)), if_pos h.2.1, if_pos h.2.1]
      exact ⟨rfl, by omega⟩
    · have a := me_fst (V := V) h n e
      rw [if_neg a.2]
      exact ⟨a.1, by omega⟩
/-- taking the lowest bit away, in two ways -/
theorem me_less {x : Int32} {f : Nat} (h : me_low x f) : x &&& (x - 1) = x &&& (((1 : Int32) <<< (nI f &&& 31)) ^^^ (-1)) := by
  have hf := h.1
  have eb : ((1 : Int32) <<< (nI f &&& 31)).toBitVec = BitVec.twoPow 32 f := (by decide +kernel : ∀ l, l < 32 → ((1 : Int32) <<< (nI l &&& 31)).toBitVec = BitVec.twoPow 32 l) f (by omega)
  have em : (1 : Int32).toBitVec = 1#32 := rfl
  have key : ∀ (X H : BitVec 32), X = H + BitVec.twoPow 32 f → X - 1#32 = H + (BitVec.twoPow 32 f - 1#32) := by
    intro X H e
    rw [e]
    simp only [BitVec.sub_eq_add_neg, BitVec.add_assoc]
  have low : ∀ i, i < 32 → ∀ f, f < 32 → (BitVec.twoPow 32 f - 1#32).getLsbD i = decide (i < f) := by decide +kernel
  have tw : ∀ i, i < 32 → (BitVec.twoPow 32 f).getLsbD i = decide (i = f) := by
    intro i hi
    have := ms_1 f (by omega) i hi
    unfold bt at this
    rw [eb] at this
    exact this
  have hb : ∀ i, x.toBitVec.getLsbD i = bt x i := fun _ => rfl
  -- the other bits
  have H1 : x.toBitVec = (x &&& (((1 : Int32) <<< (nI f &&& 31)) ^^^ (-1))).toBitVec + BitVec.twoPow 32 f := by
    rw [BitVec.add_eq_or_of_and_eq_zero]
    · apply BitVec.eq_of_getLsbD_eq
      intro i hi
      rw [BitVec.getLsbD_or, tw i hi, hb i]
      show bt x i = (bt (x &&& (((1 : Int32) <<< (nI f &&& 31)) ^^^ (-1))) i || decide (i = f))
      rw [b_and, ms_not _ hi, ms_1 f (by omega) i hi]
      by_cases z : i = f
      · subst z; rw [h.2.1]; simp
      · simp [z]
    · apply BitVec.eq_of_getLsbD_eq
      intro i hi
      rw [BitVec.getLsbD_and, tw i hi]
      show (bt (x &&& (((1 : Int32) <<< (nI f &&& 31)) ^^^ (-1))) i && decide (i = f)) = (0#32).getLsbD i
      rw [b_and, ms_not _ hi, ms_1 f (by omega) i hi]
      by_cases z : i = f
      · simp [z]
      · simp [z]
  have H2 := key _ _ H1
  have H3 : ((x &&& (((1 : Int32) <<< (nI f &&& 31)) ^^^ (-1))).toBitVec + (BitVec.twoPow 32 f - 1#32)) = ((x &&& (((1 : Int32) <<< (nI f &&& 31)) ^^^ (-1))).toBitVec ||| (BitVec.twoPow 32 f - 1#32)) := by
    rw [BitVec.add_eq_or_of_and_eq_zero]
    apply BitVec.eq_of_getLsbD_eq
    intro i hi
    rw [BitVec.getLsbD_and, low i hi f (by omega)]
    show (bt (x &&& (((1 : Int32) <<< (nI f &&& 31)) ^^^ (-1))) i && decide (i < f)) = (0#32).getLsbD i
    rw [b_and]
    by_cases z : i < f
    · rw [h.2.2 i z]; simp
    · simp [z]
  apply b_ext
  intro i hi
  rw [b_and]
  have B : bt (x - 1) i = (bt (x &&& (((1 : Int32) <<< (nI f &&& 31)) ^^^ (-1))) i || decide (i < f)) := by
    show (x - 1).toBitVec.getLsbD i = _
    rw [Int32.toBitVec_sub, em, H2, H3, BitVec.getLsbD_or, low i hi f (by omega)]
    rfl
  rw [B, b_and, ms_not _ hi, ms_1 f (by omega) i hi]
  by_cases z : i < f
  · rw [h.2.2 i z]; simp
  · cases bt x i <;> simp [z]
end
section
/-! stacks in arrays; the reference's wants and the class's -/
def sk (w : Nat → Int32) : List Nat → Prop
  | [] => True
  | x :: s => w s.length = nI x ∧ sk w s
theorem sk_u {w : Nat → Int32} {k : Nat} {x : Int32} : ∀ {s : List Nat}, s.length ≤ k → sk w s → sk (upd w k x) s
  | [], _, _ => trivial
  | a :: s, h, ⟨h1, h2⟩ => by
    have hl : s.length < k := h
    exact ⟨by rw [pk_un (by omega)]; exact h1, sk_u (by omega) h2⟩
theorem sk_p {w : Nat → Int32} {s : List Nat} {x : Nat} (h : sk w s) : sk (upd w s.length (nI x)) (x :: s) := ⟨pk_us, sk_u (Nat.le_refl _) h⟩
/-- a want of the reference as the class holds it, the top first -/
def sk_ph (c : Nat) : List Nat := if c = 0 then [4] else if c = 1 then [4, 5] else if c = 2 ∨ c = 5 then [0] else if c = 3 ∨ c = 6 then [1] else if c = 4 ∨ c = 7 then [2] else [3]
def sk_fl (b : List Nat) : List Nat → List Nat
  | [] => b
  | c :: s => sk_ph c ++ sk_fl b s
theorem sk_phl (c : Nat) : (sk_ph c).length ≤ 2 := by
  unfold sk_ph
  repeat' split
  all_goals decide
theorem sk_fll (b : List Nat) : ∀ s, (sk_fl b s).length ≤ b.length + 2 * s.length
  | [] => Nat.le_refl _
  | c :: s => by
    have := sk_fll b s
    have := sk_phl c
    simp only [sk_fl, List.length_append, List.length_cons]
    omega
def sk_out (z : Bool) : List Nat → Prop
  | [] => True
  | x :: s => (x = 0 ∧ s = [] ∧ z = true) ∨ (1 ≤ x ∧ x ≤ 4 ∧ sk_out z s)
def sk_in (z : Bool) : List Nat → Prop
  | [] => False
  | x :: s => (x = 8 ∧ sk_out z s) ∨ (5 ≤ x ∧ x ≤ 7 ∧ sk_in z s)
/-- the shape of a stack of wants; the flag: within a condition -/
def sk_ok (z : Bool) (c : Bool) (s : List Nat) : Prop := match c with
  | false => sk_out z s
  | true => sk_in z s
theorem sk_st0 {z : Bool} {t : Nat} : ∀ {s s' : List Nat}, sk_out z s → gm_st t s = some s' → ∃ c', sk_ok z c' s' ∧ s'.length ≤ s.length + 2
  | [], _, _, h => nomatch h
  | x :: s, s', hs, h => by
    rcases hs with ⟨rfl, rfl, hz⟩ | ⟨h1, h2, hs⟩
    · rw [gm_stB _ _ _ (by omega)] at h
      repeat' split at h
      all_goals first | (cases h; exact ⟨false, by simp [sk_ok, sk_in, sk_out, hz], by simp only [List.length_cons]; omega⟩) | (cases h) | omega
    · rcases (show x = 1 ∨ x = 2 ∨ x = 3 ∨ x = 4 by omega) with rfl | rfl | rfl | rfl
      · rw [gm_stB _ _ _ (by omega)] at h
        repeat' split at h
        all_goals first | (cases h; exact ⟨false, by simp [sk_ok, sk_in, sk_out, hs], by simp only [List.length_cons]; omega⟩) | (cases h; exact ⟨false, hs, by simp only [List.length_cons]; omega⟩) | (cases h)
      · rw [gm_stN _ _ _ (by omega)] at h
        repeat' split at h
        all_goals first | (cases h; exact ⟨false, by simp [sk_ok, sk_in, sk_out, hs], by simp only [List.length_cons]; omega⟩) | (cases h; exact ⟨false, hs, by simp only [List.length_cons]; omega⟩) | (cases h)
      · rw [gm_stP _ _ _ (by omega)] at h
        repeat' split at h
        all_goals first | (cases h; exact ⟨false, by simp [sk_ok, sk_in, sk_out, hs], by simp only [List.length_cons]; omega⟩) | (cases h; exact ⟨false, hs, by simp only [List.length_cons]; omega⟩) | (cases h)
      · rw [gm_st4] at h
        by_cases k : t = 15
        · rw [if_pos k] at h
          cases h
          exact ⟨false, by simp [sk_ok, sk_in, sk_out, hs], by simp only [List.length_cons]; omega⟩
        rw [if_neg k] at h
        by_cases k6 : t = 16
        · rw [if_pos k6] at h
          cases h
          exact ⟨true, by simp [sk_ok, sk_in, sk_out, hs], by simp only [List.length_cons]; omega⟩
        rw [if_neg k6] at h
        obtain ⟨c', a, b⟩ := sk_st0 hs h
        exact ⟨c', a, by simp only [List.length_cons]; omega⟩
theorem sk_st1 {z : Bool} {t : Nat} : ∀ {s s' : List Nat}, sk_in z s → gm_st t s = some s' → ∃ c', sk_ok z c' s' ∧ s'.length ≤ s.length + 2
  | [], _, hs, _ => absurd hs id
  | x :: s, s', hs, h => by
    rcases hs with ⟨rfl, hs⟩ | ⟨h1, h2, hs⟩
    · rw [gm_st8] at h
      split at h
      · cases h
        exact ⟨false, hs, by simp only [List.length_cons]; omega⟩
      · exact nomatch h
    · rcases (show x = 5 ∨ x = 6 ∨ x = 7 by omega) with rfl | rfl | rfl
      · rw [gm_stN _ _ _ (by omega)] at h
        repeat' split at h
        all_goals first | (cases h; exact ⟨true, by simp [sk_ok, sk_in, hs], by simp only [List.length_cons]; omega⟩) | (cases h; exact ⟨true, hs, by simp only [List.length_cons]; omega⟩) | (cases h)
      · rw [gm_stP _ _ _ (by omega)] at h
        split at h
        · cases h
          exact ⟨true, by simp [sk_ok, sk_in, hs], by simp only [List.length_cons]; omega⟩
        · exact nomatch h
      · rw [gm_st7] at h
        by_cases k : t = 15
        · rw [if_pos k] at h
          cases h
          exact ⟨true, by simp [sk_ok, sk_in, hs], by simp only [List.length_cons]; omega⟩
        rw [if_neg k] at h
        obtain ⟨c', a, b⟩ := sk_st1 hs h
        exact ⟨c', a, by simp only [List.length_cons]; omega⟩
theorem sk_st {z c : Bool} {t : Nat} {s s' : List Nat} (hs : sk_ok z c s) (h : gm_st t s = some s') : ∃ c', sk_ok z c' s' ∧ s'.length ≤ s.length + 2 := by
  cases c
  · exact sk_st0 hs h
  · exact sk_st1 hs h
end
section
/-! the class: counting, summing, the first; numbers -/
variable {f_nodeCount f_innermost f_draftLength f_rulesGiven f_wrongToken f_wantedCount f_inCondition f_depth f_cursor f_outcome f_outputCount f_stepsTaken : Int32} {a_names a_values a_parents a_kinds a_operands a_priorities a_givenAt a_wanted a_axes a_passing a_ends a_openers a_table a_results a_matched a_listLeft a_listNode a_listPosition a_listSize a_listBody a_listReturn a_outputs : Nat → Int32}
theorem xw_24 : (24 : Int32) = nI 24 := rfl
theorem xw_nodesIn_l {post : Int32 → Prop} {x : Int32} (hp : post (nI (nu_cnt x 24))) : ∀ d i n, i + d = 24 → d < n → wX_nodesIn_4 post x f_nodeCount f_innermost f_draftLength f_rulesGiven f_wrongToken f_wantedCount f_inCondition f_depth f_cursor f_outcome f_outputCount f_stepsTaken a_names a_values a_parents a_kinds a_operands a_priorities a_givenAt a_wanted a_axes a_passing a_ends a_openers a_table a_results a_matched a_listLeft a_listNode a_listPosition a_listSize a_listBody a_listReturn a_outputs n (nI (nu_cnt x i)) (nI i) := by
  intro d
  induction d with
  | zero =>
    intro i n hi hn
    obtain ⟨n, rfl⟩ : ∃ k, n = k + 1 := ⟨n - 1, by omega⟩
    have e : i = 24 := by omega
    subst e
    exact br_t (by decide) hp
  | succ d ih =>
    intro i n hi hn
    obtain ⟨n, rfl⟩ : ∃ k, n = k + 1 := ⟨n - 1, by omega⟩
    refine br_f (nI_ge (b := 24) (by omega) (by decide)) (nm_r (e' := nI (nu_cnt x (i + 1))) ?_ (nm_r (nI_1 i) (ih (i + 1) n (by omega) (by omega))))
    rw [ms_tst x (by omega), nu_cnt]
    by_cases h : bt x i = true
    · rw [if_pos h, if_pos h, nI_1]
    · rw [if_neg h, if_neg h, Int32.add_zero]; rfl
theorem xw_nodesIn {post : Int32 → Prop} {x : Int32} (hp : post (nI (nu_cnt x 24))) : wpX_nodesIn post (f_nodeCount, f_innermost, f_draftLength, f_rulesGiven, f_wrongToken, f_wantedCount, f_inCondition, f_depth, f_cursor, f_outcome, f_outputCount, f_stepsTaken, a_names, a_values, a_parents, a_kinds, a_operands, a_priorities, a_givenAt, a_wanted, a_axes, a_passing, a_ends, a_openers, a_table, a_results, a_matched, a_listLeft, a_listNode, a_listPosition, a_listSize, a_listBody, a_listReturn, a_outputs) x :=
  ⟨25, xw_nodesIn_l hp 24 0 25 rfl (by omega)⟩
theorem xw_sumOf_l {post : Int32 → Prop} {x : Int32} {nc : Nat} (hc : nc ≤ 24) (hp : post (nu_sum a_values x nc)) : ∀ d i n, i + d = nc → d < n → wX_sumOf_4 post x (nI nc) f_innermost f_draftLength f_rulesGiven f_wrongToken f_wantedCount f_inCondition f_depth f_cursor f_outcome f_outputCount f_stepsTaken a_names a_values a_parents a_kinds a_operands a_priorities a_givenAt a_wanted a_axes a_passing a_ends a_openers a_table a_results a_matched a_listLeft a_listNode a_listPosition a_listSize a_listBody a_listReturn a_outputs n (nu_sum a_values x i) (nI i) := by
  intro d
  induction d with
  | zero =>
    intro i n hi hn
    obtain ⟨n, rfl⟩ : ∃ k, n = k + 1 := ⟨n - 1, by omega⟩
    have e : i = nc := by omega
    subst e
    exact br_t (nI_le (Nat.le_refl _) (by omega)) hp
  | succ d ih =>
    intro i n hi hn
    obtain ⟨n, rfl⟩ : ∃ k, n = k + 1 := ⟨n - 1, by omega⟩
    have I := ih (i + 1) n (by omega) (by omega)
    have e : nu_sum a_values x (i + 1) = nu_sum a_values x i + (if bt x i = true then a_values i else 0) := rfl
    refine br_f (nI_ge (by omega) (by omega)) ?_
    cases h : bt x i
    · rw [h, if_neg (by decide), Int32.add_zero] at e
      rw [e] at I
      exact br_t (ms_f (by omega) h) (nm_r (nI_1 i) I)
    · rw [h, if_pos rfl] at e
      refine br_f (ms_t (by omega) h) ⟨vp_in_nI (by omega) (by omega), nm_r (e' := nu_sum a_values x (i + 1)) ?_ (nm_r (nI_1 i) I)⟩
      rw [nI_clamp (by omega), e]
theorem xw_sumOf {post : Int32 → Prop} {x : Int32} {nc : Nat} (hc : nc ≤ 24) (hp : post (nu_sum a_values x nc)) : wpX_sumOf post (nI nc, f_innermost, f_draftLength, f_rulesGiven, f_wrongToken, f_wantedCount, f_inCondition, f_depth, f_cursor, f_outcome, f_outputCount, f_stepsTaken, a_names, a_values, a_parents, a_kinds, a_operands, a_priorities, a_givenAt, a_wanted, a_axes, a_passing, a_ends, a_openers, a_table, a_results, a_matched, a_listLeft, a_listNode, a_listPosition, a_listSize, a_listBody, a_listReturn, a_outputs) x :=
  ⟨nc + 1, xw_sumOf_l hc hp nc 0 (nc + 1) (by omega) (by omega)⟩
theorem xw_firstOf_l {post : Int32 → Prop} {x : Int32} {f : Nat} (hf : me_low x f) (hp : post (nI f)) : ∀ d i n, i + d = f → d < n → wX_firstOf_2 post x f_nodeCount f_innermost f_draftLength f_rulesGiven f_wrongToken f_wantedCount f_inCondition f_depth f_cursor f_outcome f_outputCount f_stepsTaken a_names a_values a_parents a_kinds a_operands a_priorities a_givenAt a_wanted a_axes a_passing a_ends a_openers a_table a_results a_matched a_listLeft a_listNode a_listPosition a_listSize a_listBody a_listReturn a_outputs n (nI i) := by
  have f24 := hf.1
  intro d
  induction d with
  | zero =>
    intro i n hi hn
    obtain ⟨n, rfl⟩ : ∃ k, n = k + 1 := ⟨n - 1, by omega⟩
    have e : i = f := by omega
    subst e
    exact br_c (fun _ => hp) (fun _ => br_f (ms_t (by omega) hf.2.1) hp)
  | succ d ih =>
    intro i n hi hn
    obtain ⟨n, rfl⟩ : ∃ k, n = k + 1 := ⟨n - 1, by omega⟩
    exact br_f (nI_ge (b := 23) (by omega) (by decide)) (br_t (ms_f (by omega) (hf.2.2 i (by omega))) (nm_r (nI_1 i) (ih (i + 1) n (by omega) (by omega))))
theorem xw_firstOf {post : Int32 → Prop} {x : Int32} {f : Nat} (hf : me_low x f) (hp : post (nI f)) : wpX_firstOf post (f_nodeCount, f_innermost, f_draftLength, f_rulesGiven, f_wrongToken, f_wantedCount, f_inCondition, f_depth, f_cursor, f_outcome, f_outputCount, f_stepsTaken, a_names, a_values, a_parents, a_kinds, a_operands, a_priorities, a_givenAt, a_wanted, a_axes, a_passing, a_ends, a_openers, a_table, a_results, a_matched, a_listLeft, a_listNode, a_listPosition, a_listSize, a_listBody, a_listReturn, a_outputs) x :=
  ⟨f + 1, xw_firstOf_l hf hp f 0 (f + 1) (by omega) (by omega)⟩
theorem xw_ix (c m : Nat) : nI c * 24 + nI m = nI (c * 24 + m) := by
  rw [xw_24, pk_mul, nI_add]
theorem xw_selectedFrom_l {post : Int32 → Prop} {x : Int32} {nc c : Nat} (hc : nc ≤ 24) (hcc : c < 224) (hp : ∀ r, (∀ i, i < 32 → (bt r i = true ↔ ∃ m, m < nc ∧ bt x m = true ∧ bt (a_table (c * 24 + m)) i = true)) → post r) :
    ∀ d i n r, i + d = nc → d < n → (∀ j, j < 32 → (bt r j = true ↔ ∃ m, m < i ∧ bt x m = true ∧ bt (a_table (c * 24 + m)) j = true)) → wX_selectedFrom_5 post (nI c) x (nI nc) f_innermost f_draftLength f_rulesGiven f_wrongToken f_wantedCount f_inCondition f_depth f_cursor f_outcome f_outputCount f_stepsTaken a_names a_values a_parents a_kinds a_operands a_priorities a_givenAt a_wanted a_axes a_passing a_ends a_openers a_table a_results a_matched a_listLeft a_listNode a_listPosition a_listSize a_listBody a_listReturn a_outputs n r (nI i) := by
  intro d
  induction d with
  | zero =>
    intro i n r hi hn hr
    obtain ⟨n, rfl⟩ : ∃ k, n = k + 1 := ⟨n - 1, by omega⟩
    have e : i = nc := by omega
    subst e
    exact br_t (nI_le (Nat.le_refl _) (by omega)) (hp r hr)
  | succ d ih =>
    intro i n r hi hn hr
    obtain ⟨n, rfl⟩ : ∃ k, n = k + 1 := ⟨n - 1, by omega⟩
    refine br_f (nI_ge (by omega) (by omega)) ?_
    cases h : bt x i
    · refine br_t (ms_f (by omega) h) (nm_r (nI_1 i) (ih (i + 1) n r (by omega) (by omega) fun j hj => (hr j hj).trans ⟨fun ⟨m, a, b⟩ => ⟨m, by omega, b⟩, fun ⟨m, a, b, z⟩ => ⟨m, ?_, b, z⟩⟩))
      rcases Nat.lt_or_ge m i with q | q
      · exact q
      · have : m = i := by omega
        rw [this, h] at b
        exact nomatch b
    · have ix := xw_ix c i
      refine br_f (ms_t (by omega) h) ⟨by rw [ix]; exact vp_in_nI (by omega) (by omega), nm_r (e' := r ||| a_table (c * 24 + i)) (by rw [ix, nI_clamp (by omega)]) (nm_r (nI_1 i) (ih (i + 1) n _ (by omega) (by omega) fun j hj => ?_))⟩
      rw [b_or, Bool.or_eq_true, hr j hj]
      constructor
      · rintro (⟨m, a, b⟩ | z)
        · exact ⟨m, by omega, b⟩
        · exact ⟨i, by omega, h, z⟩
      · rintro ⟨m, a, b, z⟩
        rcases Nat.lt_or_ge m i with q | q
        · exact Or.inl ⟨m, q, b, z⟩
        · have : m = i := by omega
          rw [this] at z
          exact Or.inr z
theorem xw_selectedFrom {post : Int32 → Prop} {x : Int32} {nc c : Nat} (hc : nc ≤ 24) (hcc : c < 224) (hp : ∀ r, (∀ i, i < 32 → (bt r i = true ↔ ∃ m, m < nc ∧ bt x m = true ∧ bt (a_table (c * 24 + m)) i = true)) → post r) : wpX_selectedFrom post (nI nc, f_innermost, f_draftLength, f_rulesGiven, f_wrongToken, f_wantedCount, f_inCondition, f_depth, f_cursor, f_outcome, f_outputCount, f_stepsTaken, a_names, a_values, a_parents, a_kinds, a_operands, a_priorities, a_givenAt, a_wanted, a_axes, a_passing, a_ends, a_openers, a_table, a_results, a_matched, a_listLeft, a_listNode, a_listPosition, a_listSize, a_listBody, a_listReturn, a_outputs) (nI c) x :=
  ⟨nc + 1, xw_selectedFrom_l hc hcc hp nc 0 (nc + 1) 0 (by omega) (by omega) fun j hj => ⟨fun z => absurd z (by rw [b_0]; decide), fun ⟨m, a, _⟩ => absurd a (by omega)⟩⟩
end
section
/-! the class: numbers, conditions -/
variable {f_nodeCount f_innermost f_draftLength f_rulesGiven f_wrongToken f_wantedCount f_inCondition f_depth f_cursor f_outcome f_outputCount f_stepsTaken : Int32} {a_names a_values a_parents a_kinds a_operands a_priorities a_givenAt a_wanted a_axes a_passing a_ends a_openers a_table a_results a_matched a_listLeft a_listNode a_listPosition a_listSize a_listBody a_listReturn a_outputs : Nat → Int32}
theorem nc_7 {post : Int32 → Prop} {x y : Int32} (h : post (nu_c 7 x y)) : post (x + y) := h
theorem nc_8 {post : Int32 → Prop} {x y : Int32} (h : post (nu_c 8 x y)) : post (x - y) := h
theorem nc_9 {post : Int32 → Prop} {x y : Int32} (h : post (nu_c 9 x y)) : post (x * y) := h
theorem nc_10 {post : Int32 → Prop} {x y : Int32} (h : post (nu_c 10 x y)) : (y ≤ x → post 0) ∧ (¬ y ≤ x → post 1) := by
  have e : nu_c 10 x y = if x < y then 1 else 0 := rfl
  rw [e] at h
  refine ⟨fun z => ?_, fun z => ?_⟩
  · rw [if_neg (Int32.not_lt.mpr z)] at h; exact h
  · rw [if_pos (Int32.not_le.mp z)] at h; exact h
theorem nc_11 {post : Int32 → Prop} {x y : Int32} (h : post (nu_c 11 x y)) : (x = y → post 1) ∧ (¬ x = y → post 0) := by
  have e : nu_c 11 x y = if x = y then 1 else 0 := rfl
  rw [e] at h
  refine ⟨fun z => ?_, fun z => ?_⟩
  · rw [if_pos z] at h; exact h
  · rw [if_neg z] at h; exact h
theorem nc_12 {post : Int32 → Prop} {x y : Int32} (h : post (nu_c 12 x y)) : (x = 0 → post 0) ∧ (¬ x = 0 → ((y = 0 → post 0) ∧ (¬ y = 0 → post 1))) := by
  have e : nu_c 12 x y = if x ≠ 0 ∧ y ≠ 0 then 1 else 0 := rfl
  rw [e] at h
  refine ⟨fun z => ?_, fun z => ⟨fun q => ?_, fun q => ?_⟩⟩
  · rw [if_neg (fun t => t.1 z)] at h; exact h
  · rw [if_neg (fun t => t.2 q)] at h; exact h
  · rw [if_pos ⟨z, q⟩] at h; exact h
theorem nc_13 {post : Int32 → Prop} {x y : Int32} (h : post (nu_c 13 x y)) : (x = 0 → ((y = 0 → post 0) ∧ (¬ y = 0 → post 1))) ∧ (¬ x = 0 → post 1) := by
  have e : nu_c 13 x y = if x ≠ 0 ∨ y ≠ 0 then 1 else 0 := rfl
  rw [e] at h
  refine ⟨fun z => ⟨fun q => ?_, fun q => ?_⟩, fun z => ?_⟩
  · rw [if_neg (fun t => t.elim (fun a => a z) (fun a => a q))] at h; exact h
  · rw [if_pos (Or.inr q)] at h; exact h
  · rw [if_pos (Or.inl z)] at h; exact h
theorem xw_i1 {a : Nat} (h : a + 1 < 224) : vp_in (nI a + 1) 224 := by rw [nI_1]; exact vp_in_nI h (by omega)
theorem xw_c1 {a : Nat} (h : a + 1 < 224) : (nI a + 1).toNatClampNeg = a + 1 := by rw [nI_1]; exact nI_clamp (by omega)
theorem xw_res0 {post : Int32 → Prop} {a m : Nat} {ps sz : Int32} (ha : a < 224) (hk : a_kinds a = nI 0) (hp : post (a_operands a)) : wpX_resultAt post (f_nodeCount, f_innermost, f_draftLength, f_rulesGiven, f_wrongToken, f_wantedCount, f_inCondition, f_depth, f_cursor, f_outcome, f_outputCount, f_stepsTaken, a_names, a_values, a_parents, a_kinds, a_operands, a_priorities, a_givenAt, a_wanted, a_axes, a_passing, a_ends, a_openers, a_table, a_results, a_matched, a_listLeft, a_listNode, a_listPosition, a_listSize, a_listBody, a_listReturn, a_outputs) (nI a) (nI m) ps sz :=
  ⟨vp_in_nI ha (by omega), nm_r (e' := nI 0) (by rw [nI_clamp (by omega)]; exact hk) (br_f (by decide) (br_f (by decide) (br_t (by decide) (⟨vp_in_nI ha (by omega), by rw [nI_clamp (by omega)]; exact hp⟩))))⟩
theorem xw_res1 {post : Int32 → Prop} {a m : Nat} {ps sz : Int32} (ha : a < 224) (hk : a_kinds a = nI 1) (hp : post ps) : wpX_resultAt post (f_nodeCount, f_innermost, f_draftLength, f_rulesGiven, f_wrongToken, f_wantedCount, f_inCondition, f_depth, f_cursor, f_outcome, f_outputCount, f_stepsTaken, a_names, a_values, a_parents, a_kinds, a_operands, a_priorities, a_givenAt, a_wanted, a_axes, a_passing, a_ends, a_openers, a_table, a_results, a_matched, a_listLeft, a_listNode, a_listPosition, a_listSize, a_listBody, a_listReturn, a_outputs) (nI a) (nI m) ps sz :=
  ⟨vp_in_nI ha (by omega), nm_r (e' := nI 1) (by rw [nI_clamp (by omega)]; exact hk) (br_f (by decide) (br_f (by decide) (br_f (by decide) (br_t (by decide) (hp)))))⟩
theorem xw_res2 {post : Int32 → Prop} {a m : Nat} {ps sz : Int32} (ha : a < 224) (hk : a_kinds a = nI 2) (hp : post sz) : wpX_resultAt post (f_nodeCount, f_innermost, f_draftLength, f_rulesGiven, f_wrongToken, f_wantedCount, f_inCondition, f_depth, f_cursor, f_outcome, f_outputCount, f_stepsTaken, a_names, a_values, a_parents, a_kinds, a_operands, a_priorities, a_givenAt, a_wanted, a_axes, a_passing, a_ends, a_openers, a_table, a_results, a_matched, a_listLeft, a_listNode, a_listPosition, a_listSize, a_listBody, a_listReturn, a_outputs) (nI a) (nI m) ps sz :=
  ⟨vp_in_nI ha (by omega), nm_r (e' := nI 2) (by rw [nI_clamp (by omega)]; exact hk) (br_f (by decide) (br_f (by decide) (br_f (by decide) (br_f (by decide) (br_t (by decide) (hp))))))⟩
theorem xw_res3 {post : Int32 → Prop} {a m : Nat} {ps sz : Int32} (ha : a < 224) (hk : a_kinds a = nI 3) (hm : m < 24) (hp : post (a_values m)) : wpX_resultAt post (f_nodeCount, f_innermost, f_draftLength, f_rulesGiven, f_wrongToken, f_wantedCount, f_inCondition, f_depth, f_cursor, f_outcome, f_outputCount, f_stepsTaken, a_names, a_values, a_parents, a_kinds, a_operands, a_priorities, a_givenAt, a_wanted, a_axes, a_passing, a_ends, a_openers, a_table, a_results, a_matched, a_listLeft, a_listNode, a_listPosition, a_listSize, a_listBody, a_listReturn, a_outputs) (nI a) (nI m) ps sz :=
  ⟨vp_in_nI ha (by omega), nm_r (e' := nI 3) (by rw [nI_clamp (by omega)]; exact hk) (br_f (by decide) (br_f (by decide) (br_f (by decide) (br_f (by decide) (br_f (by decide) (br_t (by decide) (⟨vp_in_nI hm (by omega), by rw [nI_clamp (by omega)]; exact hp⟩)))))))⟩
theorem xw_res4 {post : Int32 → Prop} {a m : Nat} {ps sz : Int32} (ha : a < 224) (hk : a_kinds a = nI 4) (hm : m < 24) (hp : post (a_table (a * 24 + m))) : wpX_resultAt post (f_nodeCount, f_innermost, f_draftLength, f_rulesGiven, f_wrongToken, f_wantedCount, f_inCondition, f_depth, f_cursor, f_outcome, f_outputCount, f_stepsTaken, a_names, a_values, a_parents, a_kinds, a_operands, a_priorities, a_givenAt, a_wanted, a_axes, a_passing, a_ends, a_openers, a_table, a_results, a_matched, a_listLeft, a_listNode, a_listPosition, a_listSize, a_listBody, a_listReturn, a_outputs) (nI a) (nI m) ps sz :=
  ⟨vp_in_nI ha (by omega), nm_r (e' := nI 4) (by rw [nI_clamp (by omega)]; exact hk) (br_f (by decide) (br_f (by decide) (br_f (by decide) (br_f (by decide) (br_f (by decide) (br_f (by decide) (br_t (by decide) (⟨by rw [xw_ix]; exact vp_in_nI (by omega) (by omega), by rw [xw_ix, nI_clamp (by omega)]; exact hp⟩))))))))⟩
theorem xw_res5 {post : Int32 → Prop} {a m : Nat} {ps sz : Int32} (ha : a < 224) (hk : a_kinds a = nI 5) (hm : m < 24) (hp : post (a_table (a * 24 + m))) : wpX_resultAt post (f_nodeCount, f_innermost, f_draftLength, f_rulesGiven, f_wrongToken, f_wantedCount, f_inCondition, f_depth, f_cursor, f_outcome, f_outputCount, f_stepsTaken, a_names, a_values, a_parents, a_kinds, a_operands, a_priorities, a_givenAt, a_wanted, a_axes, a_passing, a_ends, a_openers, a_table, a_results, a_matched, a_listLeft, a_listNode, a_listPosition, a_listSize, a_listBody, a_listReturn, a_outputs) (nI a) (nI m) ps sz :=
  ⟨vp_in_nI ha (by omega), nm_r (e' := nI 5) (by rw [nI_clamp (by omega)]; exact hk) (br_f (by decide) (br_f (by decide) (br_f (by decide) (br_f (by decide) (br_f (by decide) (br_f (by decide) (br_f (by decide) (br_t (by decide) (⟨by rw [xw_ix]; exact vp_in_nI (by omega) (by omega), by rw [xw_ix, nI_clamp (by omega)]; exact hp⟩)))))))))⟩
theorem xw_res6 {post : Int32 → Prop} {a m : Nat} {ps sz : Int32} (ha : a < 224) (hk : a_kinds a = nI 6) (hm : m < 24) (hp : post (a_table (a * 24 + m))) : wpX_resultAt post (f_nodeCount, f_innermost, f_draftLength, f_rulesGiven, f_wrongToken, f_wantedCount, f_inCondition, f_depth, f_cursor, f_outcome, f_outputCount, f_stepsTaken, a_names, a_values, a_parents, a_kinds, a_operands, a_priorities, a_givenAt, a_wanted, a_axes, a_passing, a_ends, a_openers, a_table, a_results, a_matched, a_listLeft, a_listNode, a_listPosition, a_listSize, a_listBody, a_listReturn, a_outputs) (nI a) (nI m) ps sz :=
  ⟨vp_in_nI ha (by omega), nm_r (e' := nI 6) (by rw [nI_clamp (by omega)]; exact hk) (br_f (by decide) (br_f (by decide) (br_f (by decide) (br_f (by decide) (br_f (by decide) (br_f (by decide) (br_f (by decide) (br_f (by decide) (br_t (by decide) (⟨by rw [xw_ix]; exact vp_in_nI (by omega) (by omega), by rw [xw_ix, nI_clamp (by omega)]; exact hp⟩))))))))))⟩
theorem xw_bin {post : Int32 → Prop} {a e k : Nat} (ha : a + 1 < 224) (he : a_ends (a + 1) = nI e) (h2 : e < 224) (k7 : 7 ≤ k) (k13 : k ≤ 13) (hp : post (nu_c k (a_results (a + 1)) (a_results e))) : wX_resultAt_132 post (nI a) (nI k) f_nodeCount f_innermost f_draftLength f_rulesGiven f_wrongToken f_wantedCount f_inCondition f_depth f_cursor f_outcome f_outputCount f_stepsTaken a_names a_values a_parents a_kinds a_operands a_priorities a_givenAt a_wanted a_axes a_passing a_ends a_openers a_table a_results a_matched a_listLeft a_listNode a_listPosition a_listSize a_listBody a_listReturn a_outputs := by
  have e1 : a_results (nI a + 1).toNatClampNeg = a_results (a + 1) := by rw [xw_c1 ha]
  have i2 : vp_in (a_ends (nI a + 1).toNatClampNeg) 224 := by rw [xw_c1 ha, he]; exact vp_in_nI h2 (by omega)
  have e2 : a_results (a_ends (nI a + 1).toNatClampNeg).toNatClampNeg = a_results e := by rw [xw_c1 ha, he, nI_clamp (by omega)]
  rcases (show k = 7 ∨ k = 8 ∨ k = 9 ∨ k = 10 ∨ k = 11 ∨ k = 12 ∨ k = 13 by omega) with rfl | rfl | rfl | rfl | rfl | rfl | rfl
  · exact br_f (by decide) (br_t (by decide) ⟨xw_i1 ha, nm_r e1 ⟨xw_i1 ha, i2, nm_r e2 (br_f (by decide) (br_f (by decide) (br_t (by decide) (nc_7 hp))))⟩⟩)
  · exact br_f (by decide) (br_t (by decide) ⟨xw_i1 ha, nm_r e1 ⟨xw_i1 ha, i2, nm_r e2 (br_f (by decide) (br_f (by decide) (br_f (by decide) (br_t (by decide) (nc_8 hp)))))⟩⟩)
  · exact br_f (by decide) (br_t (by decide) ⟨xw_i1 ha, nm_r e1 ⟨xw_i1 ha, i2, nm_r e2 (br_f (by decide) (br_f (by decide) (br_f (by decide) (br_f (by decide) (br_t (by decide) (nc_9 hp))))))⟩⟩)
  · exact br_f (by decide) (br_t (by decide) ⟨xw_i1 ha, nm_r e1 ⟨xw_i1 ha, i2, nm_r e2 (br_f (by decide) (br_f (by decide) (br_f (by decide) (br_f (by decide) (br_f (by decide) (br_t (by decide) (nc_10 hp)))))))⟩⟩)
  · exact br_f (by decide) (br_t (by decide) ⟨xw_i1 ha, nm_r e1 ⟨xw_i1 ha, i2, nm_r e2 (br_f (by decide) (br_f (by decide) (br_f (by decide) (br_f (by decide) (br_f (by decide) (br_f (by decide) (br_t (by decide) (nc_11 hp))))))))⟩⟩)
  · exact br_f (by decide) (br_t (by decide) ⟨xw_i1 ha, nm_r e1 ⟨xw_i1 ha, i2, nm_r e2 (br_f (by decide) (br_f (by decide) (br_f (by decide) (br_f (by decide) (br_f (by decide) (br_f (by decide) (br_f (by decide) (br_t (by decide) (nc_12 hp)))))))))⟩⟩)
  · exact br_f (by decide) (br_t (by decide) ⟨xw_i1 ha, nm_r e1 ⟨xw_i1 ha, i2, nm_r e2 (br_f (by decide) (br_t (by decide) (nc_13 hp)))⟩⟩)
theorem xw_res7 {post : Int32 → Prop} {a m e : Nat} {ps sz : Int32} (ha : a + 1 < 224) (hk : a_kinds a = nI 7) (he : a_ends (a + 1) = nI e) (h2 : e < 224) (hp : post (nu_c 7 (a_results (a + 1)) (a_results e))) : wpX_resultAt post (f_nodeCount, f_innermost, f_draftLength, f_rulesGiven, f_wrongToken, f_wantedCount, f_inCondition, f_depth, f_cursor, f_outcome, f_outputCount, f_stepsTaken, a_names, a_values, a_parents, a_kinds, a_operands, a_priorities, a_givenAt, a_wanted, a_axes, a_passing, a_ends, a_openers, a_table, a_results, a_matched, a_listLeft, a_listNode, a_listPosition, a_listSize, a_listBody, a_listReturn, a_outputs) (nI a) (nI m) ps sz :=
  ⟨vp_in_nI (by omega) (by omega), nm_r (e' := nI 7) (by rw [nI_clamp (by omega)]; exact hk) (br_f (by decide) (br_f (by decide) (br_f (by decide) (br_f (by decide) (br_f (by decide) (br_f (by decide) (br_f (by decide) (br_f (by decide) (br_f (by decide) (br_t (by decide) (xw_bin ha he h2 (by decide) (by decide) hp)))))))))))⟩
theorem xw_res8 {post : Int32 → Prop} {a m e : Nat} {ps sz : Int32} (ha : a + 1 < 224) (hk : a_kinds a = nI 8) (he : a_ends (a + 1) = nI e) (h2 : e < 224) (hp : post (nu_c 8 (a_results (a + 1)) (a_results e))) : wpX_resultAt post (f_nodeCount, f_innermost, f_draftLength, f_rulesGiven, f_wrongToken, f_wantedCount, f_inCondition, f_depth, f_cursor, f_outcome, f_outputCount, f_stepsTaken, a_names, a_values, a_parents, a_kinds, a_operands, a_priorities, a_givenAt, a_wanted, a_axes, a_passing, a_ends, a_openers, a_table, a_results, a_matched, a_listLeft, a_listNode, a_listPosition, a_listSize, a_listBody, a_listReturn, a_outputs) (nI a) (nI m) ps sz :=
  ⟨vp_in_nI (by omega) (by omega), nm_r (e' := nI 8) (by rw [nI_clamp (by omega)]; exact hk) (br_f (by decide) (br_f (by decide) (br_f (by decide) (br_f (by decide) (br_f (by decide) (br_f (by decide) (br_f (by decide) (br_f (by decide) (br_f (by decide) (br_f (by decide) (br_t (by decide) (xw_bin ha he h2 (by decide) (by decide) hp))))))))))))⟩
theorem xw_res9 {post : Int32 → Prop} {a m e : Nat} {ps sz : Int32} (ha : a + 1 < 224) (hk : a_kinds a = nI 9) (he : a_ends (a + 1) = nI e) (h2 : e < 224) (hp : post (nu_c 9 (a_results (a + 1)) (a_results e))) : wpX_resultAt post (f_nodeCount, f_innermost, f_draftLength, f_rulesGiven, f_wrongToken, f_wantedCount, f_inCondition, f_depth, f_cursor, f_outcome, f_outputCount, f_stepsTaken, a_names, a_values, a_parents, a_kinds, a_operands, a_priorities, a_givenAt, a_wanted, a_axes, a_passing, a_ends, a_openers, a_table, a_results, a_matched, a_listLeft, a_listNode, a_listPosition, a_listSize, a_listBody, a_listReturn, a_outputs) (nI a) (nI m) ps sz :=
  ⟨vp_in_nI (by omega) (by omega), nm_r (e' := nI 9) (by rw [nI_clamp (by omega)]; exact hk) (br_f (by decide) (br_f (by decide) (br_f (by decide) (br_f (by decide) (br_f (by decide) (br_f (by decide) (br_f (by decide) (br_f (by decide) (br_f (by decide) (br_f (by decide) (br_f (by decide) (br_t (by decide) (xw_bin ha he h2 (by decide) (by decide) hp)))))))))))))⟩
theorem xw_res10 {post : Int32 → Prop} {a m e : Nat} {ps sz : Int32} (ha : a + 1 < 224) (hk : a_kinds a = nI 10) (he : a_ends (a + 1) = nI e) (h2 : e < 224) (hp : post (nu_c 10 (a_results (a + 1)) (a_results e))) : wpX_resultAt post (f_nodeCount, f_innermost, f_draftLength, f_rulesGiven, f_wrongToken, f_wantedCount, f_inCondition, f_depth, f_cursor, f_outcome, f_outputCount, f_stepsTaken, a_names, a_values, a_parents, a_kinds, a_operands, a_priorities, a_givenAt, a_wanted, a_axes, a_passing, a_ends, a_openers, a_table, a_results, a_matched, a_listLeft, a_listNode, a_listPosition, a_listSize, a_listBody, a_listReturn, a_outputs) (nI a) (nI m) ps sz :=
  ⟨vp_in_nI (by omega) (by omega), nm_r (e' := nI 10) (by rw [nI_clamp (by omega)]; exact hk) (br_f (by decide) (br_f (by decide) (br_f (by decide) (br_f (by decide) (br_f (by decide) (br_f (by decide) (br_f (by decide) (br_f (by decide) (br_f (by decide) (br_f (by decide) (br_f (by decide) (br_f (by decide) (br_t (by decide) (xw_bin ha he h2 (by decide) (by decide) hp))))))))))))))⟩
theorem xw_res11 {post : Int32 → Prop} {a m e : Nat} {ps sz : Int32} (ha : a + 1 < 224) (hk : a_kinds a = nI 11) (he : a_ends (a + 1) = nI e) (h2 : e < 224) (hp : post (nu_c 11 (a_results (a + 1)) (a_results e))) : wpX_resultAt post (f_nodeCount, f_innermost, f_draftLength, f_rulesGiven, f_wrongToken, f_wantedCount, f_inCondition, f_depth, f_cursor, f_outcome, f_outputCount, f_stepsTaken, a_names, a_values, a_parents, a_kinds, a_operands, a_priorities, a_givenAt, a_wanted, a_axes, a_passing, a_ends, a_openers, a_table, a_results, a_matched, a_listLeft, a_listNode, a_listPosition, a_listSize, a_listBody, a_listReturn, a_outputs) (nI a) (nI m) ps sz :=
  ⟨vp_in_nI (by omega) (by omega), nm_r (e' := nI 11) (by rw [nI_clamp (by omega)]; exact hk) (br_f (by decide) (br_f (by decide) (br_f (by decide) (br_f (by decide) (br_f (by decide) (br_f (by decide) (br_f (by decide) (br_f (by decide) (br_f (by decide) (br_f (by decide) (br_f (by decide) (br_f (by decide) (br_f (by decide) (br_t (by decide) (xw_bin ha he h2 (by decide) (by decide) hp)))))))))))))))⟩
theorem xw_res12 {post : Int32 → Prop} {a m e : Nat} {ps sz : Int32} (ha : a + 1 < 224) (hk : a_kinds a = nI 12) (he : a_ends (a + 1) = nI e) (h2 : e < 224) (hp : post (nu_c 12 (a_results (a + 1)) (a_results e))) : wpX_resultAt post (f_nodeCount, f_innermost, f_draftLength, f_rulesGiven, f_wrongToken, f_wantedCount, f_inCondition, f_depth, f_cursor, f_outcome, f_outputCount, f_stepsTaken, a_names, a_values, a_parents, a_kinds, a_operands, a_priorities, a_givenAt, a_wanted, a_axes, a_passing, a_ends, a_openers, a_table, a_results, a_matched, a_listLeft, a_listNode, a_listPosition, a_listSize, a_listBody, a_listReturn, a_outputs) (nI a) (nI m) ps sz :=
  ⟨vp_in_nI (by omega) (by omega), nm_r (e' := nI 12) (by rw [nI_clamp (by omega)]; exact hk) (br_f (by decide) (br_f (by decide) (br_f (by decide) (br_f (by decide) (br_f (by decide) (br_f (by decide) (br_f (by decide) (br_f (by decide) (br_f (by decide) (br_f (by decide) (br_f (by decide) (br_f (by decide) (br_f (by decide) (br_f (by decide) (br_t (by decide) (xw_bin ha he h2 (by decide) (by decide) hp))))))))))))))))⟩
theorem xw_res13 {post : Int32 → Prop} {a m e : Nat} {ps sz : Int32} (ha : a + 1 < 224) (hk : a_kinds a = nI 13) (he : a_ends (a + 1) = nI e) (h2 : e < 224) (hp : post (nu_c 13 (a_results (a + 1)) (a_results e))) : wpX_resultAt post (f_nodeCount, f_innermost, f_draftLength, f_rulesGiven, f_wrongToken, f_wantedCount, f_inCondition, f_depth, f_cursor, f_outcome, f_outputCount, f_stepsTaken, a_names, a_values, a_parents, a_kinds, a_operands, a_priorities, a_givenAt, a_wanted, a_axes, a_passing, a_ends, a_openers, a_table, a_results, a_matched, a_listLeft, a_listNode, a_listPosition, a_listSize, a_listBody, a_listReturn, a_outputs) (nI a) (nI m) ps sz :=
  ⟨vp_in_nI (by omega) (by omega), nm_r (e' := nI 13) (by rw [nI_clamp (by omega)]; exact hk) (br_f (by decide) (br_f (by decide) (br_f (by decide) (br_f (by decide) (br_f (by decide) (br_f (by decide) (br_f (by decide) (br_f (by decide) (br_f (by decide) (br_f (by decide) (br_f (by decide) (br_f (by decide) (br_f (by decide) (br_f (by decide) (br_f (by decide) (br_t (by decide) (xw_bin ha he h2 (by decide) (by decide) hp)))))))))))))))))⟩
theorem xw_res14 {post : Int32 → Prop} {a m : Nat} {ps sz : Int32} (ha : a + 1 < 224) (hk : a_kinds a = nI 14) (hp : post (if a_results (a + 1) = 0 then 1 else 0)) : wpX_resultAt post (f_nodeCount, f_innermost, f_draftLength, f_rulesGiven, f_wrongToken, f_wantedCount, f_inCondition, f_depth, f_cursor, f_outcome, f_outputCount, f_stepsTaken, a_names, a_values, a_parents, a_kinds, a_operands, a_priorities, a_givenAt, a_wanted, a_axes, a_passing, a_ends, a_openers, a_table, a_results, a_matched, a_listLeft, a_listNode, a_listPosition, a_listSize, a_listBody, a_listReturn, a_outputs) (nI a) (nI m) ps sz := by
  refine ⟨vp_in_nI (by omega) (by omega), nm_r (e' := nI 14) (by rw [nI_clamp (by omega)]; exact hk) (br_f (by decide) (br_f (by decide) (br_f (by decide) (br_f (by decide) (br_f (by decide) (br_f (by decide) (br_f (by decide) (br_f (by decide) (br_f (by decide) (br_f (by decide) (br_f (by decide) (br_f (by decide) (br_f (by decide) (br_f (by decide) (br_f (by decide) (br_f (by decide) (br_t (by decide) (⟨xw_i1 ha, ?_⟩))))))))))))))))))⟩
  rw [xw_c1 ha]
  refine ⟨fun z => ?_, fun z => ?_⟩
  · rw [if_pos z] at hp; exact hp
  · rw [if_neg z] at hp; exact hp
theorem xw_res15 {post : Int32 → Prop} {a m k : Nat} {ps sz : Int32} (ha : a < 224) (hk : a_kinds a = nI k) (h15 : 14 < k) (hl : k < 100) (hp : post 0) : wpX_resultAt post (f_nodeCount, f_innermost, f_draftLength, f_rulesGiven, f_wrongToken, f_wantedCount, f_inCondition, f_depth, f_cursor, f_outcome, f_outputCount, f_stepsTaken, a_names, a_values, a_parents, a_kinds, a_operands, a_priorities, a_givenAt, a_wanted, a_axes, a_passing, a_ends, a_openers, a_table, a_results, a_matched, a_listLeft, a_listNode, a_listPosition, a_listSize, a_listBody, a_listReturn, a_outputs) (nI a) (nI m) ps sz :=
  ⟨vp_in_nI ha (by omega), nm_r (e' := nI k) (by rw [nI_clamp (by omega)]; exact hk) (br_f (nI_pos (by omega)) (br_t (nI_lt (a := 14) h15 (by omega)) (br_f (nI_nlt (b := 7) (by omega) (by omega)) (br_f (nI_ge (a := 13) (by omega) (by omega)) hp))))⟩
theorem xw_m1 (p : Nat) : nI p + (-1) = nI p - 1 := by rw [Int32.sub_eq_add_neg]
theorem xw_m1lt {p : Nat} (h : p < 2 ^ 31) : nI p - 1 < nI p := by
  cases p with
  | zero => decide
  | succ p => rw [nI_pred]; exact nI_lt (by omega) h
/-- the cells of a slot that begins at b -/
def xs_k (a_kinds : Nat → Int32) (b : Nat) (K : Nat → Nat) : Prop := ∀ x, x < 32 → a_kinds (b + x) = nI (K x)
theorem xw_numberAt_l {post : Int32 → SX → Prop} {K : Nat → Nat} {len b c nd : Nat} {ps sz : Int32} (W : gm_W K len) (hb : b + 32 ≤ 224) (hk : xs_k a_kinds b K) (hc : c < len) (k14 : K c ≤ 14) (he : ∀ x, c ≤ x → x < gm_e K c → a_ends (b + x) = nI (b + gm_e K x)) (hn : nd < 24)
    (hp : ∀ res, post (nu_n K (fun x => a_operands (b + x)) a_values (fun x a => a_table ((b + x) * 24 + a)) nd ps sz c) (f_nodeCount, f_innermost, f_draftLength, f_rulesGiven, f_wrongToken, f_wantedCount, f_inCondition, f_depth, f_cursor, f_outcome, f_outputCount, f_stepsTaken, a_names, a_values, a_parents, a_kinds, a_operands, a_priorities, a_givenAt, a_wanted, a_axes, a_passing, a_ends, a_openers, a_table, res, a_matched, a_listLeft, a_listNode, a_listPosition, a_listSize, a_listBody, a_listReturn, a_outputs)) :
    ∀ d n res, c + d ≤ gm_e K c → d < n → (∀ x, c + d ≤ x → x < gm_e K c → K x ≤ 14 → res (b + x) = nu_n K (fun x => a_operands (b + x)) a_values (fun x a => a_table ((b + x) * 24 + a)) nd ps sz x) →
      wX_numberAt_10 post (nI (b + c)) (nI nd) ps sz f_nodeCount f_innermost f_draftLength f_rulesGiven f_wrongToken f_wantedCount f_inCondition f_depth f_cursor f_outcome f_outputCount f_stepsTaken n (nI (b + c + d) - 1) a_names a_values a_parents a_kinds a_operands a_priorities a_givenAt a_wanted a_axes a_passing a_ends a_openers a_table res a_matched a_listLeft a_listNode a_listPosition a_listSize a_listBody a_listReturn a_outputs := by
  have hl := W.1
  have hel := (W.2.2 c hc).2.1
  have hlt := (W.2.2 c hc).1
  intro d
  induction d with
  | zero =>
    intro n res _ hn' hr
    obtain ⟨n, rfl⟩ : ∃ k, n = k + 1 := ⟨n - 1, by omega⟩
    refine br_t (xw_m1lt (by omega)) ⟨vp_in_nI (by omega) (by omega), ?_⟩
    rw [nI_clamp (by omega), hr c (by omega) hlt k14]
    exact hp res
  | succ d ih =>
    intro n res hd hn' hr
    obtain ⟨n, rfl⟩ : ∃ k, n = k + 1 := ⟨n - 1, by omega⟩
    have ex : nI (b + c + (d + 1)) - 1 = nI (b + (c + d)) := by
      rw [show b + c + (d + 1) = (b + (c + d)) + 1 by omega, nI_pred]
    rw [ex]
    have hcd : c + d < len := by omega
    have L := W.2.2 (c + d) hcd
    have lam := (W.2.2 c hc).2.2.1 (c + d) (by omega) (by omega)
    have hkk := hk (c + d) (by omega)
    refine br_f (nI_nlt (by omega) (by omega)) ?_
    have key : ∀ r, (K (c + d) ≤ 14 → r = nu_n K (fun x => a_operands (b + x)) a_values (fun x a => a_table ((b + x) * 24 + a)) nd ps sz (c + d)) → vp_in (nI (b + (c + d))) 224 ∧ ∀ a_results_41, a_results_41 = upd res (nI (b + (c + d))).toNatClampNeg r → ∀ x5_42, x5_42 = nI (b + (c + d)) + (-1) → wX_numberAt_10 post (nI (b + c)) (nI nd) ps sz f_nodeCount f_innermost f_draftLength f_rulesGiven f_wrongToken f_wantedCount f_inCondition f_depth f_cursor f_outcome f_outputCount f_stepsTaken n x5_42 a_names a_values a_parents a_kinds a_operands a_priorities a_givenAt a_wanted a_axes a_passing a_ends a_openers a_table a_results_41 a_matched a_listLeft a_listNode a_listPosition a_listSize a_listBody a_listReturn a_outputs := by
      intro r hr2
      refine ⟨vp_in_nI (by omega) (by omega), nm_r (e' := upd res (b + (c + d)) r) (by rw [nI_clamp (by omega)]) (nm_r (e' := nI (b + c + d) - 1) (by rw [xw_m1, Nat.add_assoc]) (ih n _ (by omega) (by omega) fun x x1 x2 x3 => ?_))⟩
      rcases Nat.eq_or_lt_of_le x1 with e | e
      · rw [← e, pk_us]; exact hr2 (by rw [e]; exact x3)
      · rw [pk_un (by omega)]; exact hr x (by omega) x2 x3
    match hK : K (c + d) with
    | 0 => rw [hK] at hkk; exact xw_res0 (by omega) hkk (key _ fun _ => by rw [nu_n0 hK])
    | 1 => rw [hK] at hkk; exact xw_res1 (by omega) hkk (key _ fun _ => by rw [nu_n1 hK])
    | 2 => rw [hK] at hkk; exact xw_res2 (by omega) hkk (key _ fun _ => by rw [nu_n2 hK])
    | 3 => rw [hK] at hkk; exact xw_res3 (by omega) hkk hn (key _ fun _ => by rw [nu_n3 hK])
    | 4 => rw [hK] at hkk; exact xw_res4 (by omega) hkk hn (key _ fun _ => by rw [nu_n6 (K := K) (c := c + d) (by omega) (by omega)])
    | 5 => rw [hK] at hkk; exact xw_res5 (by omega) hkk hn (key _ fun _ => by rw [nu_n6 (K := K) (c := c + d) (by omega) (by omega)])
    | 6 => rw [hK] at hkk; exact xw_res6 (by omega) hkk hn (key _ fun _ => by rw [nu_n6 (K := K) (c := c + d) (by omega) (by omega)])
    | 7 =>
      rw [hK] at hkk
      obtain ⟨a1, a2, a3, a4, a5⟩ := L.2.2.2.2.2.1 (by omega)
      refine xw_res7 (by omega) hkk (he (c + d + 1) (by omega) (by omega)) (by omega) (key _ fun _ => ?_)
      rw [nu_n13 W hcd (by omega) (by omega), hK, ← hr (c + d + 1) (by omega) (by omega) a1, ← hr (gm_e K (c + d + 1)) (by omega) (by omega) a2]
      rfl
    | 8 =>
      rw [hK] at hkk
      obtain ⟨a1, a2, a3, a4, a5⟩ := L.2.2.2.2.2.1 (by omega)
      refine xw_res8 (by omega) hkk (he (c + d + 1) (by omega) (by omega)) (by omega) (key _ fun _ => ?_)
      rw [nu_n13 W hcd (by omega) (by omega), hK, ← hr (c + d + 1) (by omega) (by omega) a1, ← hr (gm_e K (c + d + 1)) (by omega) (by omega) a2]
      rfl
    | 9 =>
      rw [hK] at hkk
      obtain ⟨a1, a2, a3, a4, a5⟩ := L.2.2.2.2.2.1 (by omega)
      refine xw_res9 (by omega) hkk (he (c + d + 1) (by omega) (by omega)) (by omega) (key _ fun _ => ?_)
      rw [nu_n13 W hcd (by omega) (by omega), hK, ← hr (c + d + 1) (by omega) (by omega) a1, ← hr (gm_e K (c + d + 1)) (by omega) (by omega) a2]
      rfl
    | 10 =>
      rw [hK] at hkk
      obtain ⟨a1, a2, a3, a4, a5⟩ := L.2.2.2.2.2.1 (by omega)
      refine xw_res10 (by omega) hkk (he (c + d + 1) (by omega) (by omega)) (by omega) (key _ fun _ => ?_)
      rw [nu_n13 W hcd (by omega) (by omega), hK, ← hr (c + d + 1) (by omega) (by omega) a1, ← hr (gm_e K (c + d + 1)) (by omega) (by omega) a2]
      rfl
    | 11 =>
      rw [hK] at hkk
      obtain ⟨a1, a2, a3, a4, a5⟩ := L.2.2.2.2.2.1 (by omega)
      refine xw_res11 (by omega) hkk (he (c + d + 1) (by omega) (by omega)) (by omega) (key _ fun _ => ?_)
      rw [nu_n13 W hcd (by omega) (by omega), hK, ← hr (c + d + 1) (by omega) (by omega) a1, ← hr (gm_e K (c + d + 1)) (by omega) (by omega) a2]
      rfl
    | 12 =>
      rw [hK] at hkk
      obtain ⟨a1, a2, a3, a4, a5⟩ := L.2.2.2.2.2.1 (by omega)
      refine xw_res12 (by omega) hkk (he (c + d + 1) (by omega) (by omega)) (by omega) (key _ fun _ => ?_)
      rw [nu_n13 W hcd (by omega) (by omega), hK, ← hr (c + d + 1) (by omega) (by omega) a1, ← hr (gm_e K (c + d + 1)) (by omega) (by omega) a2]
      rfl
    | 13 =>
      rw [hK] at hkk
      obtain ⟨a1, a2, a3, a4, a5⟩ := L.2.2.2.2.2.1 (by omega)
      refine xw_res13 (by omega) hkk (he (c + d + 1) (by omega) (by omega)) (by omega) (key _ fun _ => ?_)
      rw [nu_n13 W hcd (by omega) (by omega), hK, ← hr (c + d + 1) (by omega) (by omega) a1, ← hr (gm_e K (c + d + 1)) (by omega) (by omega) a2]
      rfl
    | 14 =>
      rw [hK] at hkk
      obtain ⟨a1, a2, a3⟩ := L.2.2.2.2.2.2.1 hK
      refine xw_res14 (by omega) hkk (key _ fun _ => ?_)
      rw [nu_n14 W hcd hK, ← hr (c + d + 1) (by omega) (by omega) a1]
      rfl
    | k + 15 =>
      rw [hK] at hkk
      have := L.2.2.2.2.2.2.2.2.2.1
      exact xw_res15 (by omega) hkk (by omega) (by omega) (key _ fun z => absurd z (by omega))
theorem xw_numberAt {post : Int32 → SX → Prop} {K : Nat → Nat} {len b c nd : Nat} {ps sz : Int32} (W : gm_W K len) (hb : b + 32 ≤ 224) (hk : xs_k a_kinds b K) (hc : c < len) (k14 : K c ≤ 14) (he : ∀ x, c ≤ x → x < gm_e K c → a_ends (b + x) = nI (b + gm_e K x)) (hn : nd < 24)
    (hp : ∀ res, post (nu_n K (fun x => a_operands (b + x)) a_values (fun x a => a_table ((b + x) * 24 + a)) nd ps sz c) (f_nodeCount, f_innermost, f_draftLength, f_rulesGiven, f_wrongToken, f_wantedCount, f_inCondition, f_depth, f_cursor, f_outcome, f_outputCount, f_stepsTaken, a_names, a_values, a_parents, a_kinds, a_operands, a_priorities, a_givenAt, a_wanted, a_axes, a_passing, a_ends, a_openers, a_table, res, a_matched, a_listLeft, a_listNode, a_listPosition, a_listSize, a_listBody, a_listReturn, a_outputs)) : wpX_numberAt post (f_nodeCount, f_innermost, f_draftLength, f_rulesGiven, f_wrongToken, f_wantedCount, f_inCondition, f_depth, f_cursor, f_outcome, f_outputCount, f_stepsTaken, a_names, a_values, a_parents, a_kinds, a_operands, a_priorities, a_givenAt, a_wanted, a_axes, a_passing, a_ends, a_openers, a_table, a_results, a_matched, a_listLeft, a_listNode, a_listPosition, a_listSize, a_listBody, a_listReturn, a_outputs) (nI (b + c)) (nI nd) ps sz := by
  have hl := W.1
  have hel := (W.2.2 c hc).2.1
  have hlt := (W.2.2 c hc).1
  refine ⟨vp_in_nI (by omega) (by omega), nm_r (e' := nI (b + c + (gm_e K c - c)) - 1) ?_ ⟨gm_e K c - c + 1, xw_numberAt_l W hb hk hc k14 he hn hp (gm_e K c - c) _ a_results (by omega) (by omega) fun x x1 x2 _ => absurd x2 (by omega)⟩⟩
  rw [nI_clamp (by omega), he c (Nat.le_refl _) hlt, show b + c + (gm_e K c - c) = b + gm_e K c by omega]
end
section
/-! the class: those that meet a condition, a STEP's row of the table, a measure's -/
variable {f_nodeCount f_innermost f_draftLength f_rulesGiven f_wrongToken f_wantedCount f_inCondition f_depth f_cursor f_outcome f_outputCount f_stepsTaken : Int32} {a_names a_values a_parents a_kinds a_operands a_priorities a_givenAt a_wanted a_axes a_passing a_ends a_openers a_table a_results a_matched a_listLeft a_listNode a_listPosition a_listSize a_listBody a_listReturn a_outputs : Nat → Int32}
theorem ls_len1 (M : Int32) : ∀ k, ((List.range k).filter (bt M)).length = nu_cnt M k
  | 0 => rfl
  | k + 1 => by
    rw [List.range_succ, List.filter_append, List.length_append, ls_len1 M k, nu_cnt]
    cases h : bt M k
    · rw [List.filter_cons_of_neg (by rw [h]; decide), if_neg (by decide)]; rfl
    · rw [List.filter_cons_of_pos h, if_pos rfl]; rfl
theorem ls_len (back : Bool) (M : Int32) : (ls_of back M).length = nu_cnt M 24 := by
  rw [← ls_len1 M 24]
  unfold ls_of ls_T
  cases back
  · rfl
  · simp only [if_true, List.filter_reverse, List.length_reverse]
theorem xw_those_l {post : Int32 → SX → Prop} {K : Nat → Nat} {len b c : Nat} {M : Int32} {back : Bool} {x3 : Int32} (h3 : x3 = if back = true then 1 else 0) (W : gm_W K len) (hb : b + 32 ≤ 224) (hk : xs_k a_kinds b K) (hc : c < len) (k14 : K c ≤ 14) (he : ∀ x, c ≤ x → x < gm_e K c → a_ends (b + x) = nI (b + gm_e K x))
    {G : Nat → Nat → Bool} (hG : G = fun m p => decide (nu_n K (fun x => a_operands (b + x)) a_values (fun x a => a_table ((b + x) * 24 + a)) m (nI p) (nI (ls_of back M).length) c ≠ 0))
    (hp : ∀ r res, (∀ i, i < 32 → (bt r i = true ↔ i ∈ ls_f G 0 (ls_of back M))) → post r (f_nodeCount, f_innermost, f_draftLength, f_rulesGiven, f_wrongToken, f_wantedCount, f_inCondition, f_depth, f_cursor, f_outcome, f_outputCount, f_stepsTaken, a_names, a_values, a_parents, a_kinds, a_operands, a_priorities, a_givenAt, a_wanted, a_axes, a_passing, a_ends, a_openers, a_table, res, a_matched, a_listLeft, a_listNode, a_listPosition, a_listSize, a_listBody, a_listReturn, a_outputs)) :
    ∀ d t n p kept res, t + d = 24 → d < n → (∀ i, i < 32 → ((bt kept i = true ∨ i ∈ ls_f G p (((ls_T back 24).drop t).filter (bt M))) ↔ i ∈ ls_f G 0 (ls_of back M))) →
      wX_thoseMeeting_16 post (nI (b + c)) M x3 (nI (ls_of back M).length) n (nI p) kept (nI t) f_nodeCount f_innermost f_draftLength f_rulesGiven f_wrongToken f_wantedCount f_inCondition f_depth f_cursor f_outcome f_outputCount f_stepsTaken a_names a_values a_parents a_kinds a_operands a_priorities a_givenAt a_wanted a_axes a_passing a_ends a_openers a_table res a_matched a_listLeft a_listNode a_listPosition a_listSize a_listBody a_listReturn a_outputs := by
  intro d
  induction d with
  | zero =>
    intro t n p kept res ht hn h
    obtain ⟨n, rfl⟩ : ∃ k, n = k + 1 := ⟨n - 1, by omega⟩
    have e : t = 24 := by omega
    subst e
    have e0 : (ls_T back 24).drop 24 = [] := by cases back <;> decide
    refine br_t (by decide) (hp kept res fun i hi => ?_)
    rw [← h i hi, e0]
    exact ⟨Or.inl, fun z => z.elim id (fun y => nomatch y)⟩
  | succ d ih =>
    intro t n p kept res ht hn h
    obtain ⟨n, rfl⟩ : ∃ k, n = k + 1 := ⟨n - 1, by omega⟩
    have dr := ls_T24 back t (by omega)
    have body : ∀ m, m < 24 → (ls_T back 24).drop t = m :: (ls_T back 24).drop (t + 1) → wX_thoseMeeting_37 post (wX_thoseMeeting_16 post (nI (b + c)) M x3 (nI (ls_of back M).length) n) (nI (b + c)) M x3 (nI (ls_of back M).length) (nI p) kept (nI t) (nI m) f_nodeCount f_innermost f_draftLength f_rulesGiven f_wrongToken f_wantedCount f_inCondition f_depth f_cursor f_outcome f_outputCount f_stepsTaken a_names a_values a_parents a_kinds a_operands a_priorities a_givenAt a_wanted a_axes a_passing a_ends a_openers a_table res a_matched a_listLeft a_listNode a_listPosition a_listSize a_listBody a_listReturn a_outputs := by
      intro m hm dr
      cases hbm : bt M m
      · refine br_t (ms_f (by omega) hbm) (nm_r (nI_1 t) (ih (t + 1) n p kept res (by omega) (by omega) fun i hi => ?_))
        have := h i hi
        rw [dr, List.filter_cons_of_neg (by rw [hbm]; decide)] at this
        exact this
      · refine br_f (ms_t (by omega) hbm) (nm_r (nI_1 p) (xw_numberAt W hb hk hc k14 he hm fun res' => ?_))
        have hh : ∀ i, i < 32 → ((bt kept i = true ∨ i ∈ (if G m (p + 1) = true then m :: ls_f G (p + 1) (((ls_T back 24).drop (t + 1)).filter (bt M)) else ls_f G (p + 1) (((ls_T back 24).drop (t + 1)).filter (bt M)))) ↔ i ∈ ls_f G 0 (ls_of back M)) := fun i hi => by
          have := h i hi
          rw [dr, List.filter_cons_of_pos hbm, ls_f] at this
          exact this
        by_cases hz : nu_n K (fun x => a_operands (b + x)) a_values (fun x a => a_table ((b + x) * 24 + a)) m (nI (p + 1)) (nI (ls_of back M).length) c = 0
        · refine br_t hz (nm_r (nI_1 t) (ih (t + 1) n (p + 1) kept res' (by omega) (by omega) fun i hi => ?_))
          have g : ¬ G m (p + 1) = true := by rw [hG]; simp [hz]
          have := hh i hi
          rw [if_neg g] at this
          exact this
        · refine br_f hz (nm_e (nm_r (nI_1 t) (ih (t + 1) n (p + 1) _ res' (by omega) (by omega) fun i hi => ?_)))
          have g : G m (p + 1) = true := by rw [hG]; simp [hz]
          have := hh i hi
          rw [if_pos g] at this
          rw [← this, ms_set kept (by omega) hi, Bool.or_eq_true, decide_eq_true_eq, List.mem_cons]
          constructor
          · rintro ((a | a) | a)
            · exact Or.inl a
            · exact Or.inr (Or.inl a)
            · exact Or.inr (Or.inr a)
          · rintro (a | a | a)
            · exact Or.inl (Or.inl a)
            · exact Or.inl (Or.inr a)
            · exact Or.inr a
    refine br_f (nI_ge (b := 24) (by omega) (by decide)) ?_
    cases back
    · refine br_t (by rw [h3]; decide) (body t (by omega) dr)
    · refine br_f (by rw [h3]; decide) ?_
      have e23 : (23 : Int32) - nI t = nI (23 - t) := pk_sub (a := 23) (by omega)
      rw [e23]
      exact body (23 - t) (by omega) dr
theorem xw_those {post : Int32 → SX → Prop} {K : Nat → Nat} {len b c : Nat} {M : Int32} {back : Bool} {x3 : Int32} (h3 : x3 = if back = true then 1 else 0) (W : gm_W K len) (hb : b + 32 ≤ 224) (hk : xs_k a_kinds b K) (hc : c < len) (k14 : K c ≤ 14) (he : ∀ x, c ≤ x → x < gm_e K c → a_ends (b + x) = nI (b + gm_e K x))
    (hp : ∀ r res, (∀ i, i < 32 → (bt r i = true ↔ i ∈ ls_f (fun m p => decide (nu_n K (fun x => a_operands (b + x)) a_values (fun x a => a_table ((b + x) * 24 + a)) m (nI p) (nI (ls_of back M).length) c ≠ 0)) 0 (ls_of back M))) → post r (f_nodeCount, f_innermost, f_draftLength, f_rulesGiven, f_wrongToken, f_wantedCount, f_inCondition, f_depth, f_cursor, f_outcome, f_outputCount, f_stepsTaken, a_names, a_values, a_parents, a_kinds, a_operands, a_priorities, a_givenAt, a_wanted, a_axes, a_passing, a_ends, a_openers, a_table, res, a_matched, a_listLeft, a_listNode, a_listPosition, a_listSize, a_listBody, a_listReturn, a_outputs)) :
    wpX_thoseMeeting post (f_nodeCount, f_innermost, f_draftLength, f_rulesGiven, f_wrongToken, f_wantedCount, f_inCondition, f_depth, f_cursor, f_outcome, f_outputCount, f_stepsTaken, a_names, a_values, a_parents, a_kinds, a_operands, a_priorities, a_givenAt, a_wanted, a_axes, a_passing, a_ends, a_openers, a_table, a_results, a_matched, a_listLeft, a_listNode, a_listPosition, a_listSize, a_listBody, a_listReturn, a_outputs) (nI (b + c)) M x3 := by
  refine xw_nodesIn ?_
  rw [← ls_len back M]
  refine ⟨25, xw_those_l h3 W hb hk hc k14 he rfl hp 24 0 25 0 0 a_results rfl (by omega) fun i hi => ?_⟩
  rw [b_0]
  exact ⟨fun z => z.elim (fun y => nomatch y) id, Or.inr⟩
/-- what the row of a STEP holds for the node a -/
def xs_R (K : Nat → Nat) (O V P N : Nat → Int32) (n : Nat) (tb : Nat → Nat → Int32) (q c a i : Nat) : Prop :=
  (K q = 15 ∧ ∃ m, m ∈ nu_L K O V P N n tb c a ∧ bt (tb q m) i = true) ∨ (K q ≠ 15 ∧ i ∈ nu_L K O V P N n tb c a)
theorem xw_cond {post : SX → Prop} {J : Int32 → Int32 → Int32 → Int32 → Int32 → Int32 → Int32 → Int32 → Int32 → Int32 → Int32 → Int32 → Int32 → (Nat → Int32) → (Nat → Int32) → (Nat → Int32) → (Nat → Int32) → (Nat → Int32) → (Nat → Int32) → (Nat → Int32) → (Nat → Int32) → (Nat → Int32) → (Nat → Int32) → (Nat → Int32) → (Nat → Int32) → (Nat → Int32) → (Nat → Int32) → (Nat → Int32) → (Nat → Int32) → (Nat → Int32) → (Nat → Int32) → (Nat → Int32) → (Nat → Int32) → (Nat → Int32) → (Nat → Int32) → Prop} {K : Nat → Nat} {len b c q : Nat} {back : Bool} {x1 x2 x3 x4 x5 : Int32} (h4 : x4 = if back = true then 1 else 0) (W : gm_W K len) (hb : b + 32 ≤ 224) (hk : xs_k a_kinds b K) (he : ∀ x, c < x → x < len → a_ends (b + x) = nI (b + gm_e K x)) (hq : q ≤ len) {Lf : List Nat}
    (hp : ∀ M res, ls_of back M = Lf → (∀ i, i < 32 → bt M i = true → i < 24) → wX_tabulateStep_138 post J x1 x2 x3 x4 x5 M (nI (b + q)) f_nodeCount f_innermost f_draftLength f_rulesGiven f_wrongToken f_wantedCount f_inCondition f_depth f_cursor f_outcome f_outputCount f_stepsTaken a_names a_values a_parents a_kinds a_operands a_priorities a_givenAt a_wanted a_axes a_passing a_ends a_openers a_table res a_matched a_listLeft a_listNode a_listPosition a_listSize a_listBody a_listReturn a_outputs) :
    ∀ f j t n g M res, c < j → gm_cd K len f j q → t + (q - j) ≤ 31 → q - j < n → q ≤ j + g → nu_cd K (fun x => a_operands (b + x)) a_values (fun x a => a_table ((b + x) * 24 + a)) g j (ls_of back M) = Lf → (∀ i, i < 32 → bt M i = true → i < 24) → wX_tabulateStep_90 post J x1 x2 x3 x4 x5 n M (nI (b + j)) (nI t) f_nodeCount f_innermost f_draftLength f_rulesGiven f_wrongToken f_wantedCount f_inCondition f_depth f_cursor f_outcome f_outputCount f_stepsTaken a_names a_values a_parents a_kinds a_operands a_priorities a_givenAt a_wanted a_axes a_passing a_ends a_openers a_table res a_matched a_listLeft a_listNode a_listPosition a_listSize a_listBody a_listReturn a_outputs := by
  have hl := W.1
  have stop : ∀ j t n g M res, j = q → K j ≠ 16 → t ≤ 31 → nu_cd K (fun x => a_operands (b + x)) a_values (fun x a => a_table ((b + x) * 24 + a)) g j (ls_of back M) = Lf → (∀ i, i < 32 → bt M i = true → i < 24) → wX_tabulateStep_90 post J x1 x2 x3 x4 x5 (n + 1) M (nI (b + j)) (nI t) f_nodeCount f_innermost f_draftLength f_rulesGiven f_wrongToken f_wantedCount f_inCondition f_depth f_cursor f_outcome f_outputCount f_stepsTaken a_names a_values a_parents a_kinds a_operands a_priorities a_givenAt a_wanted a_axes a_passing a_ends a_openers a_table res a_matched a_listLeft a_listNode a_listPosition a_listSize a_listBody a_listReturn a_outputs := by
    intro j t n g M res e h16 ht hL hM
    subst e
    have e2 : ls_of back M = Lf := by
      rw [← hL]
      cases g with
      | zero => rfl
      | succ g => rw [nu_cd, if_neg h16]
    refine br_f (nI_ge (b := 32) (by omega) (by decide)) ⟨vp_in_nI (by omega) (by omega), ?_⟩
    rw [nI_clamp (by omega), hk j (by omega)]
    refine br_f (fun z => h16 ?_) (hp M res e2 hM)
    have l27 : K j < 2 ^ 31 := by
      rcases Nat.lt_or_ge j len with y | y
      · have := (W.2.2 j y).2.2.2.2.2.2.2.2.2.1; omega
      · have := W.2.1 j y; omega
    exact (nI_eq (b := 16) l27 (by omega)).mp z
  intro f
  induction f with
  | zero =>
    intro j t n g M res hj C ht hn hg hL hM
    obtain ⟨n, rfl⟩ : ∃ k, n = k + 1 := ⟨n - 1, by omega⟩
    exact stop j t n g M res C.1 C.2 (by omega) hL hM
  | succ f ih =>
    intro j t n g M res hj C ht hn hg hL hM
    obtain ⟨n, rfl⟩ : ∃ k, n = k + 1 := ⟨n - 1, by omega⟩
    rcases C with C | ⟨k16, e1, e2, e3, C⟩
    · exact stop j t n g M res C.1 C.2 (by omega) hL hM
    · have hjl : j < len := by omega
      obtain ⟨o1, o2, o3, o4, o5⟩ := (W.2.2 j hjl).2.2.2.2.2.2.2.2.1 k16
      obtain ⟨g, rfl⟩ : ∃ k, g = k + 1 := ⟨g - 1, by omega⟩
      refine br_f (nI_ge (b := 32) (by omega) (by decide)) ⟨vp_in_nI (by omega) (by omega), ?_⟩
      rw [nI_clamp (by omega), hk j (by omega), k16]
      refine br_t (by decide) ?_
      rw [nI_1 (b + j), Nat.add_assoc]
      have hj1 : j + 1 < len := by omega
      refine xw_those h4 W hb hk hj1 o1 (fun x x1 x2 => he x (by omega) (by have := (W.2.2 (j + 1) hj1).2.1; omega)) fun r res' hr => ?_
      refine ⟨vp_in_nI (by omega) (by omega), nm_r (e' := nI (b + gm_e K j)) (he j hj hjl) (nm_r (nI_1 t) (ih (gm_e K j) (t + 1) n g r res' (by omega) C (by omega) (by omega) (by omega) ?_ fun i hi z => (ls_ofm.mp (ls_fm ((hr i hi).mp z))).1))⟩
      rw [ls_next hr, ← hL, nu_cd, if_pos k16]
end
section
/-! the class: a STEP's row, a measure's row -/
variable {f_nodeCount f_innermost f_draftLength f_rulesGiven f_wrongToken f_wantedCount f_inCondition f_depth f_cursor f_outcome f_outputCount f_stepsTaken : Int32} {a_names a_values a_parents a_kinds a_operands a_priorities a_givenAt a_wanted a_axes a_passing a_ends a_openers a_table a_results a_matched a_listLeft a_listNode a_listPosition a_listSize a_listBody a_listReturn a_outputs : Nat → Int32}
theorem xs_Rc {K : Nat → Nat} {O V P N : Nat → Int32} {n : Nat} {tb tb' : Nat → Nat → Int32} {q c a i : Nat} (h : ∀ x a, c + 1 ≤ x → tb x a = tb' x a) (hq : c + 1 ≤ q) : xs_R K O V P N n tb q c a i ↔ xs_R K O V P N n tb' q c a i := by
  have e : nu_L K O V P N n tb c a = nu_L K O V P N n tb' c a := nu_cdc h 32 (c + 1) _ (Nat.le_refl _)
  unfold xs_R
  rw [e]
  have f : ∀ m, tb q m = tb' q m := fun m => h q m hq
  simp only [f]
def xs_ax (a_axes P : Nat → Int32) (nc : Nat) : Prop := ∀ ax a m, ax < 9 → a < nc → m < 32 → bt (a_axes (ax * 24 + a)) m = (decide (m < nc) && tr_on P ax a m)
def xs_ps (a_passing N : Nat → Int32) (nc : Nat) : Prop := ∀ t m, t < 7 → m < 32 → bt (a_passing t) m = (decide (m < nc) && (decide (t = 6) || decide (N m = nI t)))
theorem xs_M {a_axes a_passing P N : Nat → Int32} {nc v a : Nat} (hx : xs_ax a_axes P nc) (hp : xs_ps a_passing N nc) (hv : v < 72) (hv7 : v % 8 < 7) (ha : a < nc) {m : Nat} (hm : m < 32) : bt (a_axes (v / 8 * 24 + a) &&& a_passing (v % 8)) m = (decide (m < nc) && tr_s P N v a m) := by
  rw [b_and, hx (v / 8) a m (by omega) ha hm, hp (v % 8) m hv7 hm, tr_s]
  cases decide (m < nc) <;> cases tr_on P (v / 8) a m <;> simp
theorem xs_Ml {a_axes a_passing P N : Nat → Int32} {nc v a : Nat} (hn : nc ≤ 24) (hx : xs_ax a_axes P nc) (hp : xs_ps a_passing N nc) (hv : v < 72) (hv7 : v % 8 < 7) (ha : a < nc) (back : Bool) : ls_of back (a_axes (v / 8 * 24 + a) &&& a_passing (v % 8)) = (ls_T back nc).filter (tr_s P N v a) := by
  unfold ls_of
  have hS : ∀ m, (decide (m < nc) && tr_s P N v a m) = true → m < nc := fun m h => by
    rw [Bool.and_eq_true, decide_eq_true_eq] at h; exact h.1
  have e1 : (ls_T back 24).filter (bt (a_axes (v / 8 * 24 + a) &&& a_passing (v % 8))) = (ls_T back 24).filter (fun m => decide (m < nc) && tr_s P N v a m) := by
    apply List.filter_congr
    intro m hm
    have := (ls_Tm back 24 m).mp hm
    exact xs_M hx hp hv hv7 ha (by omega)
  rw [e1, ls_TS hn hS back]
  apply List.filter_congr
  intro m hm
  have := (ls_Tm back nc m).mp hm
  rw [decide_eq_true this, Bool.true_and]
theorem xw_138 {post : SX → Prop} {J : Int32 → Int32 → Int32 → Int32 → Int32 → Int32 → Int32 → Int32 → Int32 → Int32 → Int32 → Int32 → Int32 → (Nat → Int32) → (Nat → Int32) → (Nat → Int32) → (Nat → Int32) → (Nat → Int32) → (Nat → Int32) → (Nat → Int32) → (Nat → Int32) → (Nat → Int32) → (Nat → Int32) → (Nat → Int32) → (Nat → Int32) → (Nat → Int32) → (Nat → Int32) → (Nat → Int32) → (Nat → Int32) → (Nat → Int32) → (Nat → Int32) → (Nat → Int32) → (Nat → Int32) → (Nat → Int32) → (Nat → Int32) → Prop} {K : Nat → Nat} {len b c q a nc : Nat} {back : Bool} {x2 x3 x4 M : Int32} {P N : Nat → Int32} (W : gm_W K len) (hb : b + 32 ≤ 224) (hk : xs_k a_kinds b K) (hc : c < len) (hq : q ≤ len) (hn : nc ≤ 24) (ha : a < nc)
    (hM : ls_of back M = nu_L K (fun x => a_operands (b + x)) a_values P N nc (fun x a => a_table ((b + x) * 24 + a)) c a) (hM24 : ∀ i, i < 32 → bt M i = true → i < 24)
    (hJ : ∀ v, (∀ i, i < 32 → (bt v i = true ↔ xs_R K (fun x => a_operands (b + x)) a_values P N nc (fun x a => a_table ((b + x) * 24 + a)) q c a i)) → J (nI (a + 1)) (nI nc) f_innermost f_draftLength f_rulesGiven f_wrongToken f_wantedCount f_inCondition f_depth f_cursor f_outcome f_outputCount f_stepsTaken a_names a_values a_parents a_kinds a_operands a_priorities a_givenAt a_wanted a_axes a_passing a_ends a_openers (upd a_table ((b + c) * 24 + a) v) a_results a_matched a_listLeft a_listNode a_listPosition a_listSize a_listBody a_listReturn a_outputs) :
    wX_tabulateStep_138 post J (nI (b + c)) x2 x3 x4 (nI a) M (nI (b + q)) (nI nc) f_innermost f_draftLength f_rulesGiven f_wrongToken f_wantedCount f_inCondition f_depth f_cursor f_outcome f_outputCount f_stepsTaken a_names a_values a_parents a_kinds a_operands a_priorities a_givenAt a_wanted a_axes a_passing a_ends a_openers a_table a_results a_matched a_listLeft a_listNode a_listPosition a_listSize a_listBody a_listReturn a_outputs := by
  have hl := W.1
  have mem : ∀ m, m ∈ nu_L K (fun x => a_operands (b + x)) a_values P N nc (fun x a => a_table ((b + x) * 24 + a)) c a ↔ m < 24 ∧ bt M m = true := fun m => by rw [← hM]; exact ls_ofm
  have ix := xw_ix (b + c) a
  have l27 : K q < 2 ^ 31 := by
    rcases Nat.lt_or_ge q len with y | y
    · have := (W.2.2 q y).2.2.2.2.2.2.2.2.2.1; omega
    · have := W.2.1 q y; omega
  refine ⟨vp_in_nI (by omega) (by omega), ?_⟩
  rw [nI_clamp (by omega), hk q (by omega), ix]
  by_cases k : K q = 15
  · rw [k]
    refine br_t (by decide) (xw_selectedFrom hn (by omega) fun r hr => ⟨vp_in_nI (by omega) (by omega), nm_r (e' := upd a_table ((b + c) * 24 + a) r) (by rw [nI_clamp (by omega)]) (nm_r (nI_1 a) (hJ r fun i hi => ?_))⟩)
    rw [hr i hi]
    constructor
    · rintro ⟨m, m1, m2, m3⟩
      exact Or.inl ⟨k, m, (mem m).mpr ⟨by omega, m2⟩, m3⟩
    · rintro (⟨_, m, m1, m2⟩ | ⟨z, _⟩)
      · exact ⟨m, nu_Lm m1, ((mem m).mp m1).2, m2⟩
      · exact absurd k z
  · refine br_f (fun z => k ((nI_eq (b := 15) l27 (by omega)).mp z)) ⟨vp_in_nI (by omega) (by omega), nm_r (e' := upd a_table ((b + c) * 24 + a) M) (by rw [nI_clamp (by omega)]) (nm_r (nI_1 a) (hJ M fun i hi => ?_))⟩
    constructor
    · intro z
      exact Or.inr ⟨k, (mem i).mpr ⟨hM24 i hi z, z⟩⟩
    · rintro (⟨z, _⟩ | ⟨_, z⟩)
      · exact absurd z k
      · exact ((mem i).mp z).2
theorem xw_row {post : SX → Prop} {K : Nat → Nat} {len b c q v nc : Nat} {x4 : Int32} (h4 : x4 = if nu_bk (v / 8) = true then 1 else 0) (W : gm_W K len) (hb : b + 32 ≤ 224) (hk : xs_k a_kinds b K) (he : ∀ x, c < x → x < len → a_ends (b + x) = nI (b + gm_e K x)) (hc : c < len) (C : gm_cd K len (q - (c + 1)) (c + 1) q) (hq : q ≤ len) (hn : nc ≤ 24)
    (ho : a_operands (b + c) = nI v) (hv : v < 72) (hv7 : v % 8 < 7) (hx : xs_ax a_axes a_parents nc) (hps : xs_ps a_passing a_names nc)
    (hp : ∀ tab res, (∀ y, (y < (b + c) * 24 ∨ (b + c) * 24 + 24 ≤ y) → tab y = a_table y) → (∀ a, a < nc → ∀ i, i < 32 → (bt (tab ((b + c) * 24 + a)) i = true ↔ xs_R K (fun x => a_operands (b + x)) a_values a_parents a_names nc (fun x a => a_table ((b + x) * 24 + a)) q c a i)) → post (nI nc, f_innermost, f_draftLength, f_rulesGiven, f_wrongToken, f_wantedCount, f_inCondition, f_depth, f_cursor, f_outcome, f_outputCount, f_stepsTaken, a_names, a_values, a_parents, a_kinds, a_operands, a_priorities, a_givenAt, a_wanted, a_axes, a_passing, a_ends, a_openers, tab, res, a_matched, a_listLeft, a_listNode, a_listPosition, a_listSize, a_listBody, a_listReturn, a_outputs)) :
    ∀ d a n tab res, a + d = nc → d < n → (∀ y, (y < (b + c) * 24 ∨ (b + c) * 24 + 24 ≤ y) → tab y = a_table y) → (∀ m, m < a → ∀ i, i < 32 → (bt (tab ((b + c) * 24 + m)) i = true ↔ xs_R K (fun x => a_operands (b + x)) a_values a_parents a_names nc (fun x a => a_table ((b + x) * 24 + a)) q c m i)) →
      wX_tabulateStep_52 post (nI (b + c)) (nI (v / 8)) (nI (v % 8)) x4 n (nI a) (nI nc) f_innermost f_draftLength f_rulesGiven f_wrongToken f_wantedCount f_inCondition f_depth f_cursor f_outcome f_outputCount f_stepsTaken a_names a_values a_parents a_kinds a_operands a_priorities a_givenAt a_wanted a_axes a_passing a_ends a_openers tab res a_matched a_listLeft a_listNode a_listPosition a_listSize a_listBody a_listReturn a_outputs := by
  have hl := W.1
  have hcq := (nu_cd_ge C).1
  intro d
  induction d with
  | zero =>
    intro a n tab res had hdn fr sp
    obtain ⟨n, rfl⟩ : ∃ k, n = k + 1 := ⟨n - 1, by omega⟩
    have e : a = nc := by omega
    subst e
    exact br_t (nI_le (Nat.le_refl _) (by omega)) (hp tab res fr sp)
  | succ d ih =>
    intro a n tab res had hdn fr sp
    obtain ⟨n, rfl⟩ : ∃ k, n = k + 1 := ⟨n - 1, by omega⟩
    have ix := xw_ix (v / 8) a
    have tt : ∀ x y, c + 1 ≤ x → (fun x a => tab ((b + x) * 24 + a)) x y = (fun x a => a_table ((b + x) * 24 + a)) x y := fun x y hx => fr _ (Or.inr (by omega))
    have oo : nu_o (fun x => a_operands (b + x)) c = v := by show (a_operands (b + c)).toNatClampNeg = v; rw [ho]; exact nI_clamp (by omega)
    refine br_f (nI_ge (by omega) (by omega)) ⟨by rw [ix]; exact vp_in_nI (by omega) (by omega), vp_in_nI hv7 (by omega), ?_⟩
    rw [ix, nI_clamp (by omega), nI_clamp (by omega)]
    have hML := xs_Ml hn hx hps hv hv7 (show a < nc by omega) (nu_bk (v / 8))
    refine nm_e (nm_r (e' := nI (b + (c + 1))) (by rw [nI_1, Nat.add_assoc]) ⟨33, ?_⟩)
    refine xw_cond (a_table := tab) h4 W hb hk he hq (Lf := nu_L K (fun x => a_operands (b + x)) a_values a_parents a_names nc (fun x a => tab ((b + x) * 24 + a)) c a) (fun M res' hM hM24 => ?_) (q - (c + 1)) (c + 1) 0 33 32 _ res (by omega) C (by omega) (by omega) (by omega) ?_ ?_
    · refine xw_138 (a_table := tab) W hb hk hc hq hn (by omega) hM hM24 fun val hval => ?_
      refine ih (a + 1) n _ res' (by omega) (by omega) (fun y hy => ?_) (fun m hm i hi => ?_)
      · rw [pk_un (by omega)]; exact fr y hy
      · rcases Nat.lt_or_ge m a with z | z
        · rw [pk_un (by omega)]; exact sp m z i hi
        · have : m = a := by omega
          rw [this, pk_us, hval i hi]
          exact xs_Rc tt hcq
    · rw [hML]
      unfold nu_L
      rw [oo]
    · intro i hi z
      rw [xs_M hx hps hv hv7 (by omega) hi, Bool.and_eq_true, decide_eq_true_eq] at z
      omega
theorem xw_tabulateStep {post : SX → Prop} {K : Nat → Nat} {len b c q v nc : Nat} (W : gm_W K len) (hb : b + 32 ≤ 224) (hk : xs_k a_kinds b K) (he : ∀ x, c < x → x < len → a_ends (b + x) = nI (b + gm_e K x)) (hc : c < len) (C : gm_cd K len (q - (c + 1)) (c + 1) q) (hq : q ≤ len) (hn : nc ≤ 24)
    (ho : a_operands (b + c) = nI v) (hv : v < 72) (hv7 : v % 8 < 7) (hx : xs_ax a_axes a_parents nc) (hps : xs_ps a_passing a_names nc)
    (hp : ∀ tab res, (∀ y, (y < (b + c) * 24 ∨ (b + c) * 24 + 24 ≤ y) → tab y = a_table y) → (∀ a, a < nc → ∀ i, i < 32 → (bt (tab ((b + c) * 24 + a)) i = true ↔ xs_R K (fun x => a_operands (b + x)) a_values a_parents a_names nc (fun x a => a_table ((b + x) * 24 + a)) q c a i)) → post (nI nc, f_innermost, f_draftLength, f_rulesGiven, f_wrongToken, f_wantedCount, f_inCondition, f_depth, f_cursor, f_outcome, f_outputCount, f_stepsTaken, a_names, a_values, a_parents, a_kinds, a_operands, a_priorities, a_givenAt, a_wanted, a_axes, a_passing, a_ends, a_openers, tab, res, a_matched, a_listLeft, a_listNode, a_listPosition, a_listSize, a_listBody, a_listReturn, a_outputs)) :
    wpX_tabulateStep post (nI nc, f_innermost, f_draftLength, f_rulesGiven, f_wrongToken, f_wantedCount, f_inCondition, f_depth, f_cursor, f_outcome, f_outputCount, f_stepsTaken, a_names, a_values, a_parents, a_kinds, a_operands, a_priorities, a_givenAt, a_wanted, a_axes, a_passing, a_ends, a_openers, a_table, a_results, a_matched, a_listLeft, a_listNode, a_listPosition, a_listSize, a_listBody, a_listReturn, a_outputs) (nI (b + c)) := by
  have hl := W.1
  have e8 : (8 : Int32) = nI 8 := rfl
  have row : ∀ x4 : Int32, x4 = (if nu_bk (v / 8) = true then 1 else 0) → ∃ n52 : Nat, wX_tabulateStep_52 post (nI (b + c)) (nI (v / 8)) (nI (v % 8)) x4 n52 0 (nI nc) f_innermost f_draftLength f_rulesGiven f_wrongToken f_wantedCount f_inCondition f_depth f_cursor f_outcome f_outputCount f_stepsTaken a_names a_values a_parents a_kinds a_operands a_priorities a_givenAt a_wanted a_axes a_passing a_ends a_openers a_table a_results a_matched a_listLeft a_listNode a_listPosition a_listSize a_listBody a_listReturn a_outputs := fun x4 h4 =>
    ⟨nc + 1, xw_row h4 W hb hk he hc C hq hn ho hv hv7 hx hps hp nc 0 (nc + 1) a_table a_results (by omega) (by omega) (fun _ _ => rfl) (fun m hm => absurd hm (by omega))⟩
  refine ⟨vp_in_nI (by omega) (by omega), by decide, nm_r (e' := nI (v / 8)) (by rw [nI_clamp (by omega), ho, e8, pk_div (by omega) (by omega) (by omega)]) ⟨vp_in_nI (by omega) (by omega), by decide, nm_r (e' := nI (v % 8)) (by rw [nI_clamp (by omega), ho, e8, pk_rem (by omega) (by omega) (by omega)]) ?_⟩⟩
  have q9 : v / 8 < 9 := by omega
  generalize v / 8 = ax at row q9
  have cs : ax = 0 ∨ ax = 1 ∨ ax = 2 ∨ ax = 3 ∨ ax = 4 ∨ ax = 5 ∨ ax = 6 ∨ ax = 7 ∨ ax = 8 := by omega
  rcases cs with rfl | rfl | rfl | rfl | rfl | rfl | rfl | rfl | rfl
  · exact br_f (by decide) (br_f (by decide) (br_f (by decide) (br_f (by decide) (row 0 rfl))))
  · exact br_f (by decide) (br_f (by decide) (br_f (by decide) (br_f (by decide) (row 0 rfl))))
  · exact br_t (by decide) (row 1 rfl)
  · exact br_f (by decide) (br_f (by decide) (br_f (by decide) (br_f (by decide) (row 0 rfl))))
  · exact br_f (by decide) (br_t (by decide) (row 1 rfl))
  · exact br_f (by decide) (br_f (by decide) (br_f (by decide) (br_f (by decide) (row 0 rfl))))
  · exact br_f (by decide) (br_f (by decide) (br_t (by decide) (row 1 rfl)))
  · exact br_f (by decide) (br_f (by decide) (br_f (by decide) (br_f (by decide) (row 0 rfl))))
  · exact br_f (by decide) (br_f (by decide) (br_f (by decide) (br_t (by decide) (row 1 rfl))))
theorem xw_meas {post : SX → Prop} {b c k nc : Nat} (hb : b + c + 1 < 224) (k4 : 4 ≤ k) (k6 : k ≤ 6) (hn : nc ≤ 24) (hbit : ∀ a, a < nc → ∀ i, i < 32 → bt (a_table ((b + c + 1) * 24 + a)) i = true → i < nc)
    (hp : ∀ tab, (∀ y, (y < (b + c) * 24 ∨ (b + c) * 24 + 24 ≤ y) → tab y = a_table y) → (∀ a, a < nc → tab ((b + c) * 24 + a) = nu_m a_values nc k (a_table ((b + c + 1) * 24 + a))) → post (nI nc, f_innermost, f_draftLength, f_rulesGiven, f_wrongToken, f_wantedCount, f_inCondition, f_depth, f_cursor, f_outcome, f_outputCount, f_stepsTaken, a_names, a_values, a_parents, a_kinds, a_operands, a_priorities, a_givenAt, a_wanted, a_axes, a_passing, a_ends, a_openers, tab, a_results, a_matched, a_listLeft, a_listNode, a_listPosition, a_listSize, a_listBody, a_listReturn, a_outputs)) :
    ∀ d a n tab, a + d = nc → d < n → (∀ y, (y < (b + c) * 24 ∨ (b + c) * 24 + 24 ≤ y) → tab y = a_table y) → (∀ m, m < a → tab ((b + c) * 24 + m) = nu_m a_values nc k (a_table ((b + c + 1) * 24 + m))) →
      wX_tabulateMeasure_9 post (nI (b + c)) (nI k) (nI nc) f_innermost f_draftLength f_rulesGiven f_wrongToken f_wantedCount f_inCondition f_depth f_cursor f_outcome f_outputCount f_stepsTaken n (nI a) a_names a_values a_parents a_kinds a_operands a_priorities a_givenAt a_wanted a_axes a_passing a_ends a_openers tab a_results a_matched a_listLeft a_listNode a_listPosition a_listSize a_listBody a_listReturn a_outputs := by
  intro d
  induction d with
  | zero =>
    intro a n tab had hdn fr sp
    obtain ⟨n, rfl⟩ : ∃ k, n = k + 1 := ⟨n - 1, by omega⟩
    have e : a = nc := by omega
    subst e
    exact br_t (nI_le (Nat.le_refl _) (by omega)) (hp tab fr sp)
  | succ d ih =>
    intro a n tab had hdn fr sp
    obtain ⟨n, rfl⟩ : ∃ k, n = k + 1 := ⟨n - 1, by omega⟩
    have ix := xw_ix (b + c + 1) a
    have ix2 := xw_ix (b + c) a
    have tv : tab ((b + c + 1) * 24 + a) = a_table ((b + c + 1) * 24 + a) := fr _ (Or.inr (by omega))
    have hbt := hbit a (by omega)
    have w85 : ∀ y, y = nu_m a_values nc k (a_table ((b + c + 1) * 24 + a)) → wX_tabulateMeasure_85 post (wX_tabulateMeasure_9 post (nI (b + c)) (nI k) (nI nc) f_innermost f_draftLength f_rulesGiven f_wrongToken f_wantedCount f_inCondition f_depth f_cursor f_outcome f_outputCount f_stepsTaken n) (nI (b + c)) (nI k) (nI a) y (nI nc) f_innermost f_draftLength f_rulesGiven f_wrongToken f_wantedCount f_inCondition f_depth f_cursor f_outcome f_outputCount f_stepsTaken a_names a_values a_parents a_kinds a_operands a_priorities a_givenAt a_wanted a_axes a_passing a_ends a_openers tab a_results a_matched a_listLeft a_listNode a_listPosition a_listSize a_listBody a_listReturn a_outputs := fun y hy => by
      refine ⟨by rw [ix2]; exact vp_in_nI (by omega) (by omega), nm_r (e' := upd tab ((b + c) * 24 + a) y) (by rw [ix2, nI_clamp (by omega)]) (nm_r (nI_1 a) (ih (a + 1) n _ (by omega) (by omega) (fun z hz => ?_) (fun m hm => ?_)))⟩
      · rw [pk_un (by omega)]; exact fr z hz
      · rcases Nat.lt_or_ge m a with z | z
        · rw [pk_un (by omega)]; exact sp m z
        · have : m = a := by omega
          rw [this, pk_us]; exact hy
    refine br_f (nI_ge (by omega) (by omega)) ⟨by rw [nI_1, ix]; exact vp_in_nI (by omega) (by omega), nm_r (e' := a_table ((b + c + 1) * 24 + a)) (by rw [nI_1, ix, nI_clamp (by omega)]; exact tv) ?_⟩
    rcases (show k = 4 ∨ k = 5 ∨ k = 6 by omega) with rfl | rfl | rfl
    · exact br_t (by decide) (xw_nodesIn (w85 _ (by unfold nu_m; rw [if_pos rfl, me_24 hn hbt])))
    · exact br_f (by decide) (br_t (by decide) (xw_sumOf hn (w85 _ (by unfold nu_m; rw [if_neg (by decide), if_pos rfl]))))
    · refine br_f (by decide) (br_f (by decide) (br_c (fun hz => w85 0 ?_) (fun hz => ?_)))
      · unfold nu_m
        rw [if_neg (by decide), if_neg (by decide), me_f0]
        rw [hz]
        exact me_c0 (f := nc) (fun i _ => b_0 i) nc (Nat.le_refl _)
      · obtain ⟨f, hf, low⟩ := me_ex hn hbt hz
        refine xw_firstOf low ⟨vp_in_nI (by omega) (by omega), nm_r (e' := a_values f) (by rw [nI_clamp (by omega)]) (w85 _ ?_)⟩
        unfold nu_m
        rw [if_neg (by decide), if_neg (by decide), (me_fst low nc hf).1]
theorem xw_tabulateMeasure {post : SX → Prop} {b c k nc : Nat} (hb : b + c + 1 < 224) (hk : a_kinds (b + c) = nI k) (k4 : 4 ≤ k) (k6 : k ≤ 6) (hn : nc ≤ 24) (hbit : ∀ a, a < nc → ∀ i, i < 32 → bt (a_table ((b + c + 1) * 24 + a)) i = true → i < nc)
    (hp : ∀ tab, (∀ y, (y < (b + c) * 24 ∨ (b + c) * 24 + 24 ≤ y) → tab y = a_table y) → (∀ a, a < nc → tab ((b + c) * 24 + a) = nu_m a_values nc k (a_table ((b + c + 1) * 24 + a))) → post (nI nc, f_innermost, f_draftLength, f_rulesGiven, f_wrongToken, f_wantedCount, f_inCondition, f_depth, f_cursor, f_outcome, f_outputCount, f_stepsTaken, a_names, a_values, a_parents, a_kinds, a_operands, a_priorities, a_givenAt, a_wanted, a_axes, a_passing, a_ends, a_openers, tab, a_results, a_matched, a_listLeft, a_listNode, a_listPosition, a_listSize, a_listBody, a_listReturn, a_outputs)) :
    wpX_tabulateMeasure post (nI nc, f_innermost, f_draftLength, f_rulesGiven, f_wrongToken, f_wantedCount, f_inCondition, f_depth, f_cursor, f_outcome, f_outputCount, f_stepsTaken, a_names, a_values, a_parents, a_kinds, a_operands, a_priorities, a_givenAt, a_wanted, a_axes, a_passing, a_ends, a_openers, a_table, a_results, a_matched, a_listLeft, a_listNode, a_listPosition, a_listSize, a_listBody, a_listReturn, a_outputs) (nI (b + c)) :=
  ⟨vp_in_nI (by omega) (by omega), nm_r (e' := nI k) (by rw [nI_clamp (by omega)]; exact hk) ⟨nc + 1, xw_meas hb k4 k6 hn hbit hp nc 0 (nc + 1) a_table (by omega) (by omega) (fun _ _ => rfl) (fun m hm => absurd hm (by omega))⟩⟩
end
section
/-! the class: where a phrase ends; the whole table -/
variable {f_nodeCount f_innermost f_draftLength f_rulesGiven f_wrongToken f_wantedCount f_inCondition f_depth f_cursor f_outcome f_outputCount f_stepsTaken : Int32} {a_names a_values a_parents a_kinds a_operands a_priorities a_givenAt a_wanted a_axes a_passing a_ends a_openers a_table a_results a_matched a_listLeft a_listNode a_listPosition a_listSize a_listBody a_listReturn a_outputs : Nat → Int32}
theorem gm_k26 {K : Nat → Nat} {len : Nat} (W : gm_W K len) (c : Nat) : K c ≤ 27 := by
  rcases Nat.lt_or_ge c len with y | y
  · have := (W.2.2 c y).2.2.2.2.2.2.2.2.2.1; omega
  · have := W.2.1 c y; omega
theorem xw_kne {K : Nat → Nat} {len c k : Nat} (W : gm_W K len) (hk : k < 2 ^ 31) (h : K c ≠ k) : ¬ nI (K c) = nI k := fun z => h ((nI_eq (by have := gm_k26 W c; omega) hk).mp z)
theorem xw_behindC {post : Int32 → Prop} {K : Nat → Nat} {len b c q : Nat} (W : gm_W K len) (hb : b + 32 ≤ 224) (hk : xs_k a_kinds b K) (he : ∀ x, c < x → x < 32 → a_ends (b + x) = nI (b + gm_e K x)) (hq : q ≤ len) (hp : post (nI (b + q))) :
    ∀ f j t n, c < j → gm_cd K len f j q → t + (q - j) ≤ 31 → q - j < n → wX_behindConditions_6 post f_nodeCount f_innermost f_draftLength f_rulesGiven f_wrongToken f_wantedCount f_inCondition f_depth f_cursor f_outcome f_outputCount f_stepsTaken a_names a_values a_parents a_kinds a_operands a_priorities a_givenAt a_wanted a_axes a_passing a_ends a_openers a_table a_results a_matched a_listLeft a_listNode a_listPosition a_listSize a_listBody a_listReturn a_outputs n (nI (b + j)) (nI t) := by
  have hl := W.1
  have stop : ∀ j t n, j = q → K j ≠ 16 → t ≤ 31 → wX_behindConditions_6 post f_nodeCount f_innermost f_draftLength f_rulesGiven f_wrongToken f_wantedCount f_inCondition f_depth f_cursor f_outcome f_outputCount f_stepsTaken a_names a_values a_parents a_kinds a_operands a_priorities a_givenAt a_wanted a_axes a_passing a_ends a_openers a_table a_results a_matched a_listLeft a_listNode a_listPosition a_listSize a_listBody a_listReturn a_outputs (n + 1) (nI (b + j)) (nI t) := by
    intro j t n e h16 ht
    subst e
    refine br_f (nI_ge (b := 32) (by omega) (by decide)) ⟨vp_in_nI (by omega) (by omega), ?_⟩
    rw [nI_clamp (by omega), hk j (by omega)]
    exact br_f (xw_kne W (k := 16) (by omega) h16) hp
  intro f
  induction f with
  | zero =>
    intro j t n hj C ht hn
    obtain ⟨n, rfl⟩ : ∃ k, n = k + 1 := ⟨n - 1, by omega⟩
    exact stop j t n C.1 C.2 (by omega)
  | succ f ih =>
    intro j t n hj C ht hn
    obtain ⟨n, rfl⟩ : ∃ k, n = k + 1 := ⟨n - 1, by omega⟩
    rcases C with C | ⟨k16, e1, e2, e3, C⟩
    · exact stop j t n C.1 C.2 (by omega)
    · refine br_f (nI_ge (b := 32) (by omega) (by decide)) ⟨vp_in_nI (by omega) (by omega), ?_⟩
      rw [nI_clamp (by omega), hk j (by omega), k16]
      exact br_t (by decide) ⟨vp_in_nI (by omega) (by omega), nm_r (e' := nI (b + gm_e K j)) (he j hj (by omega)) (nm_r (nI_1 t) (ih (gm_e K j) (t + 1) n (by omega) C (by omega) (by omega)))⟩
theorem xw_behindB {post : Int32 → Prop} {K : Nat → Nat} {len b c q : Nat} (W : gm_W K len) (hb : b + 32 ≤ 224) (hk : xs_k a_kinds b K) (he : ∀ x, c < x → x < 32 → a_ends (b + x) = nI (b + gm_e K x)) (hq : q ≤ len) (hp : post (nI (b + q))) :
    ∀ f j t n, c < j → gm_ch K f j q → j < q → t + (q - j) ≤ 31 → q - j < n → wX_behindBody_4 post f_nodeCount f_innermost f_draftLength f_rulesGiven f_wrongToken f_wantedCount f_inCondition f_depth f_cursor f_outcome f_outputCount f_stepsTaken a_names a_values a_parents a_kinds a_operands a_priorities a_givenAt a_wanted a_axes a_passing a_ends a_openers a_table a_results a_matched a_listLeft a_listNode a_listPosition a_listSize a_listBody a_listReturn a_outputs n (nI (b + j)) (nI t) := by
  have hl := W.1
  intro f
  induction f with
  | zero => intro j t n _ C; exact absurd C id
  | succ f ih =>
    intro j t n hj C hjq ht hn
    obtain ⟨n, rfl⟩ : ∃ k, n = k + 1 := ⟨n - 1, by omega⟩
    refine br_f (nI_ge (b := 32) (by omega) (by decide)) ⟨vp_in_nI (by omega) (by omega), ?_⟩
    rw [nI_clamp (by omega), hk j (by omega)]
    rcases C with ⟨k26, e⟩ | ⟨k1, k2, e1, e2, C⟩
    · rw [k26]
      refine br_t (by decide) ?_
      rw [nI_1, show b + j + 1 = b + q by omega]
      exact hp
    · exact br_f (xw_kne W (k := 26) (by omega) (by omega)) ⟨vp_in_nI (by omega) (by omega), nm_r (e' := nI (b + gm_e K j)) (he j hj (by omega)) (nm_r (nI_1 t) (ih (gm_e K j) (t + 1) n (by omega) C e2 (by omega) (by omega)))⟩
theorem xw_endOf {post : Int32 → Prop} {K : Nat → Nat} {len b c : Nat} (W : gm_W K len) (hb : b + 32 ≤ 224) (hk : xs_k a_kinds b K) (hc : c < 32) (he : ∀ x, c < x → x < 32 → a_ends (b + x) = nI (b + gm_e K x)) (hp : post (nI (b + gm_e K c))) : wpX_endOf post (f_nodeCount, f_innermost, f_draftLength, f_rulesGiven, f_wrongToken, f_wantedCount, f_inCondition, f_depth, f_cursor, f_outcome, f_outputCount, f_stepsTaken, a_names, a_values, a_parents, a_kinds, a_operands, a_priorities, a_givenAt, a_wanted, a_axes, a_passing, a_ends, a_openers, a_table, a_results, a_matched, a_listLeft, a_listNode, a_listPosition, a_listSize, a_listBody, a_listReturn, a_outputs) (nI (b + c)) := by
  have hl := W.1
  have hkk := hk c hc
  have leaf : (K c ≤ 3 ∨ K c = 17 ∨ K c = 20 ∨ 26 ≤ K c) → post (nI (b + c) + 1) := fun h => by
    have e := gm_E0e (gm_E0_leaf h) (by omega)
    rw [e] at hp
    rw [nI_1, Nat.add_assoc]; exact hp
  rcases Nat.lt_or_ge c len with hcl | hcl
  · have L := W.2.2 c hcl
    have e1 : ∀ x, x = c + 1 → x < 32 → vp_in (nI (b + c) + 1) 224 ∧ a_ends (nI (b + c) + 1).toNatClampNeg = nI (b + gm_e K (c + 1)) := fun x hx h32 => by
      rw [nI_1, Nat.add_assoc, nI_clamp (by omega)]
      exact ⟨vp_in_nI (by omega) (by omega), he (c + 1) (by omega) (by omega)⟩
    have i1 : vp_in (nI (b + c) + 1) 224 := (e1 (c + 1) rfl (by omega)).1
    have e1' : a_ends (nI (b + c) + 1).toNatClampNeg = nI (b + gm_e K (c + 1)) := (e1 (c + 1) rfl (by omega)).2
    have one : gm_e K c = gm_e K (c + 1) → vp_in (nI (b + c) + 1) 224 ∧ post (a_ends (nI (b + c) + 1).toNatClampNeg) := fun h => by
      refine ⟨i1, ?_⟩
      rw [e1', ← h]; exact hp
    have two : K c = 7 ∨ K c = 8 ∨ K c = 9 ∨ K c = 10 ∨ K c = 11 ∨ K c = 12 ∨ K c = 13 → wX_endOf_117 post (nI (b + c)) f_nodeCount f_innermost f_draftLength f_rulesGiven f_wrongToken f_wantedCount f_inCondition f_depth f_cursor f_outcome f_outputCount f_stepsTaken a_names a_values a_parents a_kinds a_operands a_priorities a_givenAt a_wanted a_axes a_passing a_ends a_openers a_table a_results a_matched a_listLeft a_listNode a_listPosition a_listSize a_listBody a_listReturn a_outputs := fun h => by
      obtain ⟨a1, a2, a3, a4, a5⟩ := L.2.2.2.2.2.1 (by omega)
      have b1 := L.2.1
      refine ⟨i1, ?_⟩
      rw [e1', nI_clamp (by omega), he (gm_e K (c + 1)) (by omega) (by omega), ← a5]
      exact ⟨vp_in_nI (by omega) (by omega), hp⟩
    refine ⟨vp_in_nI (by omega) (by omega), nm_r (e' := nI (K c)) (by rw [nI_clamp (by omega)]; exact hkk) ?_⟩
    match hK : K c with
    | 0 => exact br_t (by decide) (leaf (by omega))
    | 1 => exact br_t (by decide) (leaf (by omega))
    | 2 => exact br_t (by decide) (leaf (by omega))
    | 3 => exact br_t (by decide) (leaf (by omega))
    | 4 => exact br_f (by decide) (br_f (by decide) (br_t (by decide) (one (L.2.2.2.2.1 (by omega)).2.1)))
    | 5 => exact br_f (by decide) (br_f (by decide) (br_f (by decide) (br_t (by decide) (one (L.2.2.2.2.1 (by omega)).2.1))))
    | 6 => exact br_f (by decide) (br_f (by decide) (br_f (by decide) (br_f (by decide) (br_t (by decide) (one (L.2.2.2.2.1 (by omega)).2.1)))))
    | 7 => exact br_f (by decide) (br_f (by decide) (br_f (by decide) (br_f (by decide) (br_f (by decide) (br_t (by decide) (two (by omega)))))))
    | 8 => exact br_f (by decide) (br_f (by decide) (br_f (by decide) (br_f (by decide) (br_f (by decide) (br_f (by decide) (br_t (by decide) (two (by omega))))))))
    | 9 => exact br_f (by decide) (br_f (by decide) (br_f (by decide) (br_f (by decide) (br_f (by decide) (br_f (by decide) (br_f (by decide) (br_t (by decide) (two (by omega)))))))))
    | 10 => exact br_f (by decide) (br_f (by decide) (br_f (by decide) (br_f (by decide) (br_f (by decide) (br_f (by decide) (br_f (by decide) (br_f (by decide) (br_t (by decide) (two (by omega))))))))))
    | 11 => exact br_f (by decide) (br_f (by decide) (br_f (by decide) (br_f (by decide) (br_f (by decide) (br_f (by decide) (br_f (by decide) (br_f (by decide) (br_f (by decide) (br_t (by decide) (two (by omega)))))))))))
    | 12 => exact br_f (by decide) (br_f (by decide) (br_f (by decide) (br_f (by decide) (br_f (by decide) (br_f (by decide) (br_f (by decide) (br_f (by decide) (br_f (by decide) (br_f (by decide) (br_t (by decide) (two (by omega))))))))))))
    | 13 => exact br_f (by decide) (br_f (by decide) (br_f (by decide) (br_f (by decide) (br_f (by decide) (br_f (by decide) (br_f (by decide) (br_f (by decide) (br_f (by decide) (br_f (by decide) (br_f (by decide) (br_t (by decide) (two (by omega)))))))))))))
    | 14 => exact br_f (by decide) (br_f (by decide) (br_f (by decide) (br_f (by decide) (br_f (by decide) (br_f (by decide) (br_f (by decide) (br_f (by decide) (br_f (by decide) (br_f (by decide) (br_f (by decide) (br_f (by decide) (br_t (by decide) (one (L.2.2.2.2.2.2.1 hK).2.1)))))))))))))
    | 15 =>
      obtain ⟨q, C, q1, q2, q3, q4, q5, q6, q7⟩ := L.2.2.2.2.2.2.2.1 hK
      have b1 := L.2.1
      refine br_f (by decide) (br_f (by decide) (br_f (by decide) (br_f (by decide) (br_f (by decide) (br_f (by decide) (br_f (by decide) (br_f (by decide) (br_f (by decide) (br_f (by decide) (br_f (by decide) (br_f (by decide) (br_f (by decide) (br_t (by decide) (?_))))))))))))))
      refine nm_r (e' := nI (b + (c + 1))) (by rw [nI_1, Nat.add_assoc]) ⟨33, xw_behindC W hb hk he (by omega) ?_ (q - (c + 1)) (c + 1) 0 33 (by omega) C (by omega) (by omega)⟩
      refine ⟨vp_in_nI (by omega) (by omega), ?_⟩
      rw [nI_clamp (by omega), hk q (by omega)]
      by_cases k15 : K q = 15
      · rw [k15, he q (by omega) (by omega), ← (q4 k15).1]
        exact br_t (by decide) ⟨vp_in_nI (by omega) (by omega), hp⟩
      · rw [q5 k15] at hp
        exact br_f (xw_kne W (k := 15) (by omega) k15) hp
    | 16 =>
      obtain ⟨o1, o2, o3, o4, o5⟩ := L.2.2.2.2.2.2.2.2.1 hK
      refine br_f (by decide) (br_f (by decide) (br_f (by decide) (br_f (by decide) (br_f (by decide) (br_f (by decide) (br_f (by decide) (br_f (by decide) (br_f (by decide) (br_f (by decide) (br_f (by decide) (br_f (by decide) (br_f (by decide) (br_f (by decide) (br_t (by decide) (⟨i1, ?_⟩)))))))))))))))
      rw [e1', nI_1, Nat.add_assoc, ← o4]; exact hp
    | 17 => exact br_f (by decide) (br_f (by decide) (br_f (by decide) (br_f (by decide) (br_f (by decide) (br_f (by decide) (br_f (by decide) (br_f (by decide) (br_f (by decide) (br_f (by decide) (br_f (by decide) (br_f (by decide) (br_f (by decide) (br_f (by decide) (br_f (by decide) (br_t (by decide) (leaf (by omega)))))))))))))))))
    | 18 => exact absurd (L.2.2.2.2.2.2.2.2.2.1 (by omega)) (by omega)
    | 19 => exact absurd (L.2.2.2.2.2.2.2.2.2.1 (by omega)) (by omega)
    | 20 => exact br_f (by decide) (br_f (by decide) (br_f (by decide) (br_f (by decide) (br_f (by decide) (br_f (by decide) (br_f (by decide) (br_f (by decide) (br_f (by decide) (br_f (by decide) (br_f (by decide) (br_f (by decide) (br_f (by decide) (br_f (by decide) (br_f (by decide) (br_f (by decide) (br_f (by decide) (br_f (by decide) (br_t (by decide) (leaf (by omega))))))))))))))))))))
    | 21 =>
      obtain ⟨p1, p2, p3, p4, p5, p6⟩ := L.2.2.2.2.2.2.2.2.2.2.2.2.1 hK
      have b1 := L.2.1
      refine br_f (by decide) (br_f (by decide) (br_f (by decide) (br_f (by decide) (br_f (by decide) (br_f (by decide) (br_f (by decide) (br_f (by decide) (br_f (by decide) (br_f (by decide) (br_f (by decide) (br_f (by decide) (br_f (by decide) (br_f (by decide) (br_f (by decide) (br_f (by decide) (br_f (by decide) (br_f (by decide) (br_f (by decide) (br_t (by decide) (?_))))))))))))))))))))
      rw [nI_1, Nat.add_assoc]
      exact ⟨33, xw_behindB W hb hk he b1 hp 32 (c + 1) 0 33 (by omega) p4 p1 (by omega) (by omega)⟩
    | 22 => exact br_f (by decide) (br_f (by decide) (br_f (by decide) (br_f (by decide) (br_f (by decide) (br_f (by decide) (br_f (by decide) (br_f (by decide) (br_f (by decide) (br_f (by decide) (br_f (by decide) (br_f (by decide) (br_f (by decide) (br_f (by decide) (br_f (by decide) (br_f (by decide) (br_f (by decide) (br_f (by decide) (br_f (by decide) (br_f (by decide) (br_t (by decide) (one (L.2.2.2.2.2.2.2.2.2.2.2.2.2.1 hK).2.1)))))))))))))))))))))
    | 23 => exact br_f (by decide) (br_f (by decide) (br_f (by decide) (br_f (by decide) (br_f (by decide) (br_f (by decide) (br_f (by decide) (br_f (by decide) (br_f (by decide) (br_f (by decide) (br_f (by decide) (br_f (by decide) (br_f (by decide) (br_f (by decide) (br_f (by decide) (br_f (by decide) (br_f (by decide) (br_f (by decide) (br_f (by decide) (br_f (by decide) (br_f (by decide) (br_t (by decide) (one (L.2.2.2.2.2.2.2.2.2.2.2.2.2.2.1 hK).2.1))))))))))))))))))))))
    | 24 =>
      obtain ⟨p0, pp, p1, p2, p3, p4, p5, p6⟩ := L.2.2.2.2.2.2.2.2.2.2.2.2.2.2.2.1 hK
      have b1 := L.2.1
      refine br_f (by decide) (br_f (by decide) (br_f (by decide) (br_f (by decide) (br_f (by decide) (br_f (by decide) (br_f (by decide) (br_f (by decide) (br_f (by decide) (br_f (by decide) (br_f (by decide) (br_f (by decide) (br_f (by decide) (br_f (by decide) (br_f (by decide) (br_f (by decide) (br_f (by decide) (br_f (by decide) (br_f (by decide) (br_f (by decide) (br_f (by decide) (br_f (by decide) (br_t (by decide) (⟨i1, ?_⟩)))))))))))))))))))))))
      rw [e1']
      exact ⟨33, xw_behindB W hb hk he b1 hp 32 (gm_e K (c + 1)) 0 33 (by omega) p4 p1 (by omega) (by omega)⟩
    | 25 =>
      obtain ⟨p0, pp, p1, p2, p3, p4, p5, p6⟩ := L.2.2.2.2.2.2.2.2.2.2.2.2.2.2.2.2.1 hK
      have b1 := L.2.1
      refine br_f (by decide) (br_f (by decide) (br_f (by decide) (br_f (by decide) (br_f (by decide) (br_f (by decide) (br_f (by decide) (br_f (by decide) (br_f (by decide) (br_f (by decide) (br_f (by decide) (br_f (by decide) (br_f (by decide) (br_f (by decide) (br_f (by decide) (br_f (by decide) (br_f (by decide) (br_f (by decide) (br_f (by decide) (br_f (by decide) (br_f (by decide) (br_f (by decide) (br_f (by decide) (br_t (by decide) (⟨i1, ?_⟩))))))))))))))))))))))))
      rw [e1']
      exact ⟨33, xw_behindB W hb hk he b1 hp 32 (gm_e K (c + 1)) 0 33 (by omega) p4 p1 (by omega) (by omega)⟩
    | k + 26 =>
      have := gm_k26 W c
      exact br_f (nI_nlt (b := 4) (by omega) (by omega)) (br_t (nI_lt (a := 25) (by omega) (by omega)) (leaf (by omega)))
  · have e27 := W.2.1 c hcl
    refine ⟨vp_in_nI (by omega) (by omega), nm_r (e' := nI 27) (by rw [nI_clamp (by omega), hkk, e27]) (br_f (by decide) (br_t (by decide) (leaf (by omega))))⟩
end
section
/-! the class: the axes of all nodes -/
variable {f_nodeCount f_innermost f_draftLength f_rulesGiven f_wrongToken f_wantedCount f_inCondition f_depth f_cursor f_outcome f_outputCount f_stepsTaken : Int32} {a_names a_values a_parents a_kinds a_operands a_priorities a_givenAt a_wanted a_axes a_passing a_ends a_openers a_table a_results a_matched a_listLeft a_listNode a_listPosition a_listSize a_listBody a_listReturn a_outputs : Nat → Int32}
theorem xr_ix {c i : Nat} : nI c + nI i = nI (c + i) := nI_add c i
theorem xr_lt1 : ∀ a, a < 32 → ∀ m, m < 32 → bt (((1 : Int32) <<< (nI a &&& 31)) - 1) m = decide (m < a) := by decide +kernel
theorem xr_up {post : SX → Prop} {n i : Nat} (T : tr_T a_parents n) (hi : i < n) (h4 : ∀ a, a < i → ∀ m, m < 32 → bt (a_axes (96 + a)) m = tr_a a_parents m a)
    (hp : ∀ A : Nat → Int32, (∀ y, y ≠ 48 + i → y ≠ 96 + i → A y = a_axes y) → (∀ m, m < 32 → bt (A (48 + i)) m = decide (a_parents i = nI m)) → (∀ m, m < 32 → bt (A (96 + i)) m = tr_a a_parents m i) → post (f_nodeCount, f_innermost, f_draftLength, f_rulesGiven, f_wrongToken, f_wantedCount, f_inCondition, f_depth, f_cursor, f_outcome, f_outputCount, f_stepsTaken, a_names, a_values, a_parents, a_kinds, a_operands, a_priorities, a_givenAt, a_wanted, A, a_passing, a_ends, a_openers, a_table, a_results, a_matched, a_listLeft, a_listNode, a_listPosition, a_listSize, a_listBody, a_listReturn, a_outputs)) : wpX_relateUpwards post (f_nodeCount, f_innermost, f_draftLength, f_rulesGiven, f_wrongToken, f_wantedCount, f_inCondition, f_depth, f_cursor, f_outcome, f_outputCount, f_stepsTaken, a_names, a_values, a_parents, a_kinds, a_operands, a_priorities, a_givenAt, a_wanted, a_axes, a_passing, a_ends, a_openers, a_table, a_results, a_matched, a_listLeft, a_listNode, a_listPosition, a_listSize, a_listBody, a_listReturn, a_outputs) (nI i) := by
  have hn := T.1
  have e48 : (48 : Int32) + nI i = nI (48 + i) := nI_add 48 i
  have e96 : (96 : Int32) + nI i = nI (96 + i) := nI_add 96 i
  refine ⟨vp_in_nI (by omega) (by omega), nm_r (e' := a_parents i) (by rw [nI_clamp (by omega)]) ?_⟩
  by_cases h : a_parents i < 0
  · have h0 : ¬ 0 ≤ a_parents i := Int32.not_le.mpr h
    refine br_f h0 ⟨by rw [e48]; exact vp_in_nI (by omega) (by omega), nm_r (e' := upd a_axes (48 + i) 0) (by rw [e48, nI_clamp (by omega)]) (br_f h0 ⟨by rw [e96]; exact vp_in_nI (by omega) (by omega), nm_r (e' := upd (upd a_axes (48 + i) 0) (96 + i) 0) (by rw [e96, nI_clamp (by omega)]) (hp _ (fun y y1 y2 => ?_) (fun m hm => ?_) (fun m hm => ?_))⟩)⟩
    · rw [pk_un y2, pk_un y1]
    · rw [pk_un (by omega), pk_us, b_0, decide_eq_false]
      intro z
      rw [z] at h
      exact nI_pos (by omega) h
    · rw [pk_us, b_0, tr_a0 h]
  · obtain ⟨p, hpi, e⟩ := tr_par T hi h
    have h0 : 0 ≤ a_parents i := Int32.not_lt.mp h
    have e96p : (96 : Int32) + a_parents i = nI (96 + p) := by rw [e]; exact nI_add 96 p
    have ez : (1 : Int32) <<< (a_parents i &&& 31) = (1 : Int32) <<< (nI p &&& 31) := by rw [e]
    refine br_t h0 ⟨by rw [e48]; exact vp_in_nI (by omega) (by omega), nm_r (e' := upd a_axes (48 + i) ((1 : Int32) <<< (nI p &&& 31))) (by rw [e48, nI_clamp (by omega), ez]) (br_t h0 ⟨by rw [e96p]; exact vp_in_nI (by omega) (by omega), by rw [e96]; exact vp_in_nI (by omega) (by omega), nm_r (e' := upd (upd a_axes (48 + i) ((1 : Int32) <<< (nI p &&& 31))) (96 + i) (((1 : Int32) <<< (nI p &&& 31)) ||| a_axes (96 + p))) (by rw [e96, e96p, nI_clamp (by omega), nI_clamp (by omega), ez, pk_un (j := 96 + p) (by omega)]) (hp _ (fun y y1 y2 => ?_) (fun m hm => ?_) (fun m hm => ?_))⟩)⟩
    · rw [pk_un y2, pk_un y1]
    · rw [pk_un (by omega), pk_us, ms_1 p (by omega) m hm, e]
      by_cases z : m = p
      · rw [decide_eq_true z, z, decide_eq_true rfl]
      · rw [decide_eq_false z, decide_eq_false]
        intro y
        exact z ((nI_eq (by omega) (by omega)).mp y).symm
    · rw [pk_us, b_or, ms_1 p (by omega) m hm, h4 p hpi m hm, tr_as T hi hpi e]
      by_cases z : m = p
      · rw [decide_eq_true z, decide_eq_true z.symm]
      · rw [decide_eq_false z, decide_eq_false (fun y => z y.symm)]
/-- after the first loop has done the nodes below i -/
def xr_1 (A P : Nat → Int32) (i : Nat) : Prop := ∀ a, a < i → ∀ m, m < 32 → bt (A a) m = decide (m = a) ∧ A (24 + a) = 0 ∧ A (72 + a) = 0 ∧ bt (A (48 + a)) m = decide (P a = nI m) ∧ bt (A (96 + a)) m = tr_a P m a
def xr_p (Q N : Nat → Int32) (i : Nat) : Prop := ∀ t, t < 7 → ∀ m, m < 32 → bt (Q t) m = (decide (m < i) && (decide (t = 6) || decide (N m = nI t)))
/-- of the second loop, the nodes from k on done -/
def xr_2 (A P : Nat → Int32) (n k : Nat) : Prop := ∀ a, a < n → ∀ m, m < 32 → bt (A a) m = decide (m = a) ∧ bt (A (48 + a)) m = decide (P a = nI m) ∧ bt (A (96 + a)) m = tr_a P m a ∧
  (bt (A (24 + a)) m = true ↔ k ≤ m ∧ m < n ∧ P m = nI a) ∧ (bt (A (72 + a)) m = true ↔ m < n ∧ ∃ c, k ≤ c ∧ c < n ∧ P c = nI a ∧ (m = c ∨ tr_a P c m = true))
theorem xr_down {post : SX → Prop} {n i : Nat} (T : tr_T a_parents n) (hi : i < n) (h2 : xr_2 a_axes a_parents n (i + 1)) (hp : ∀ A : Nat → Int32, xr_2 A a_parents n i → post (f_nodeCount, f_innermost, f_draftLength, f_rulesGiven, f_wrongToken, f_wantedCount, f_inCondition, f_depth, f_cursor, f_outcome, f_outputCount, f_stepsTaken, a_names, a_values, a_parents, a_kinds, a_operands, a_priorities, a_givenAt, a_wanted, A, a_passing, a_ends, a_openers, a_table, a_results, a_matched, a_listLeft, a_listNode, a_listPosition, a_listSize, a_listBody, a_listReturn, a_outputs)) : wpX_relateDownwards post (f_nodeCount, f_innermost, f_draftLength, f_rulesGiven, f_wrongToken, f_wantedCount, f_inCondition, f_depth, f_cursor, f_outcome, f_outputCount, f_stepsTaken, a_names, a_values, a_parents, a_kinds, a_operands, a_priorities, a_givenAt, a_wanted, a_axes, a_passing, a_ends, a_openers, a_table, a_results, a_matched, a_listLeft, a_listNode, a_listPosition, a_listSize, a_listBody, a_listReturn, a_outputs) (nI i) := by
  have hn := T.1
  refine ⟨vp_in_nI (by omega) (by omega), nm_r (e' := a_parents i) (by rw [nI_clamp (by omega)]) ?_⟩
  by_cases h : a_parents i < 0
  · refine br_t h (hp a_axes fun a ha m hm => ?_)
    obtain ⟨q1, q2, q3, q4, q5⟩ := h2 a ha m hm
    have ne : a_parents i ≠ nI a := fun z => nI_pos (n := a) (by omega) (z ▸ h)
    refine ⟨q1, q2, q3, q4.trans ⟨fun ⟨x, y⟩ => ⟨by omega, y⟩, fun ⟨x, y, z⟩ => ⟨?_, y, z⟩⟩, q5.trans ⟨fun ⟨x, c, y, z⟩ => ⟨x, c, by omega, z⟩, fun ⟨x, c, y, z1, z2, z3⟩ => ⟨x, c, ?_, z1, z2, z3⟩⟩⟩
    · rcases Nat.eq_or_lt_of_le x with w | w
      · rw [← w] at z; exact absurd z ne
      · exact w
    · rcases Nat.eq_or_lt_of_le y with w | w
      · rw [← w] at z2; exact absurd z2 ne
      · exact w
  · obtain ⟨p, hpi, e⟩ := tr_par T hi h
    have e24 : (24 : Int32) + a_parents i = nI (24 + p) := by rw [e]; exact nI_add 24 p
    have e72 : (72 : Int32) + a_parents i = nI (72 + p) := by rw [e]; exact nI_add 72 p
    have e72i : (72 : Int32) + nI i = nI (72 + i) := nI_add 72 i
    refine br_f h ⟨by rw [e24]; exact vp_in_nI (by omega) (by omega), by rw [e24]; exact vp_in_nI (by omega) (by omega), nm_r (e' := upd a_axes (24 + p) (a_axes (24 + p) ||| ((1 : Int32) <<< (nI i &&& 31)))) (by rw [e24, nI_clamp (by omega)]) ⟨by rw [e72]; exact vp_in_nI (by omega) (by omega), by rw [e72i]; exact vp_in_nI (by omega) (by omega), by rw [e72]; exact vp_in_nI (by omega) (by omega),
      nm_r (e' := upd (upd a_axes (24 + p) (a_axes (24 + p) ||| ((1 : Int32) <<< (nI i &&& 31)))) (72 + p) (a_axes (72 + p) ||| (((1 : Int32) <<< (nI i &&& 31)) ||| a_axes (72 + i)))) (by rw [e72, e72i, nI_clamp (by omega), nI_clamp (by omega), pk_un (j := 72 + p) (by omega), pk_un (j := 72 + i) (by omega)]) (hp _ fun a ha m hm => ?_)⟩⟩
    obtain ⟨q1, q2, q3, q4, q5⟩ := h2 a ha m hm
    obtain ⟨_, _, _, _, w5⟩ := h2 i hi m hm
    obtain ⟨_, _, _, v4, v5⟩ := h2 p (by omega) m hm
    refine ⟨by rw [pk_un (by omega), pk_un (by omega)]; exact q1, by rw [pk_un (by omega), pk_un (by omega)]; exact q2, by rw [pk_un (by omega), pk_un (by omega)]; exact q3, ?_, ?_⟩
    · rw [pk_un (by omega)]
      by_cases z : a = p
      · subst z
        rw [pk_us, ms_set _ (by omega) hm, Bool.or_eq_true, decide_eq_true_eq, q4]
        constructor
        · rintro (⟨x, y⟩ | x)
          · exact ⟨by omega, y⟩
          · rw [x]; exact ⟨Nat.le_refl _, hi, e⟩
        · rintro ⟨x, y, z⟩
          rcases Nat.eq_or_lt_of_le x with w | w
          · exact Or.inr w.symm
          · exact Or.inl ⟨w, y, z⟩
      · rw [pk_un (by omega), q4]
        refine ⟨fun ⟨x, y⟩ => ⟨by omega, y⟩, fun ⟨x, y, w⟩ => ⟨?_, y, w⟩⟩
        rcases Nat.eq_or_lt_of_le x with v | v
        · rw [← v, e] at w
          exact absurd ((nI_eq (by omega) (by omega)).mp w).symm z
        · exact v
    · by_cases z : a = p
      · subst z
        rw [pk_us, b_or, b_or, Bool.or_eq_true, Bool.or_eq_true, ms_1 i (by omega) m hm, decide_eq_true_eq, q5, w5]
        constructor
        · rintro (⟨x, c, y, w⟩ | x | ⟨x, c, y1, y2, y3, y4⟩)
          · exact ⟨x, c, by omega, w⟩
          · rw [x]; exact ⟨hi, i, Nat.le_refl _, hi, e, Or.inl rfl⟩
          · exact ⟨x, i, Nat.le_refl _, hi, e, Or.inr (tr_tr T y2 (by omega) y3 m x y4)⟩
        · rintro ⟨x, c, y1, y2, y3, y4⟩
          rcases Nat.eq_or_lt_of_le y1 with w | w
          · subst w
            rcases y4 with y4 | y4
            · exact Or.inr (Or.inl y4)
            · obtain ⟨c, c1, c2, c3⟩ := tr_top T m x y4
              refine Or.inr (Or.inr ⟨x, c, ?_, c1, c2, c3⟩)
              have : i < c := by
                rcases T.2 c c1 with ⟨_, g⟩ | ⟨_, p', hp', g⟩
                · rw [g] at c2
                  exact absurd (c2 ▸ tr_m1) (nI_pos (by omega))
                · rw [g] at c2
                  have := (nI_eq (by omega) (by omega)).mp c2
                  omega
              exact this
          · exact Or.inl ⟨x, c, w, y2, y3, y4⟩
      · rw [pk_un (by omega), pk_un (by omega), q5]
        refine ⟨fun ⟨x, c, y, w⟩ => ⟨x, c, by omega, w⟩, fun ⟨x, c, y, w1, w2, w3⟩ => ⟨x, c, ?_, w1, w2, w3⟩⟩
        rcases Nat.eq_or_lt_of_le y with v | v
        · rw [← v, e] at w2
          exact absurd ((nI_eq (by omega) (by omega)).mp w2).symm z
        · exact v
end
section
/-! the class: the axes, sideways; all of them -/
variable {f_nodeCount f_innermost f_draftLength f_rulesGiven f_wrongToken f_wantedCount f_inCondition f_depth f_cursor f_outcome f_outputCount f_stepsTaken : Int32} {a_names a_values a_parents a_kinds a_operands a_priorities a_givenAt a_wanted a_axes a_passing a_ends a_openers a_table a_results a_matched a_listLeft a_listNode a_listPosition a_listSize a_listBody a_listReturn a_outputs : Nat → Int32}
theorem xr_child {A P : Nat → Int32} {n : Nat} (T : tr_T P n) {c a : Nat} (hc : c < n) (ha : a < n) (e : P c = nI a) : a < c := by
  have hn := T.1
  rcases T.2 c hc with ⟨_, g⟩ | ⟨_, p', hp', g⟩
  · rw [g] at e
    exact absurd (e ▸ tr_m1) (nI_pos (by omega))
  · rw [g] at e
    have := (nI_eq (by omega) (by omega)).mp e
    omega
theorem xr_desc {A P : Nat → Int32} {n : Nat} (T : tr_T P n) (h : xr_2 A P n 0) {a m : Nat} (ha : a < n) (hm : m < 32) : bt (A (72 + a)) m = true ↔ m < n ∧ tr_a P a m = true := by
  obtain ⟨_, _, _, _, q5⟩ := h a ha m hm
  rw [q5]
  constructor
  · rintro ⟨x, c, _, c1, c2, c3⟩
    exact ⟨x, tr_tr T c1 (xr_child (A := A) T c1 ha c2) c2 m x c3⟩
  · rintro ⟨x, y⟩
    obtain ⟨c, c1, c2, c3⟩ := tr_top T m x y
    exact ⟨x, c, by omega, c1, c2, c3⟩
theorem xr_bool {x y : Bool} (h : x = true ↔ y = true) : x = y := by
  cases x <;> cases y <;> simp_all
def xr_4 (A P : Nat → Int32) (n a : Nat) : Prop := ∀ m, m < 32 → bt (A (120 + a)) m = (decide (m < n) && tr_on P 5 a m) ∧ bt (A (144 + a)) m = (decide (m < n) && tr_on P 6 a m) ∧ bt (A (168 + a)) m = (decide (m < n) && tr_on P 7 a m) ∧ bt (A (192 + a)) m = (decide (m < n) && tr_on P 8 a m)
theorem xr_side24 {post : SX → Prop} {n i : Nat} {z0 : Int32} (T : tr_T a_parents n) (hi : i < n) (hd : ∀ m, m < 32 → (bt (a_axes (72 + i)) m = true ↔ m < n ∧ tr_a a_parents i m = true)) (ha : ∀ m, m < 32 → bt (a_axes (96 + i)) m = tr_a a_parents m i) (hz : ∀ m, m < 32 → (bt z0 m = true ↔ m < n ∧ a_parents m = a_parents i ∧ ¬ a_parents i < 0)) (hps : xr_p a_passing a_names n)
    (hp : ∀ A : Nat → Int32, (∀ y, y ≠ 120 + i → y ≠ 144 + i → y ≠ 168 + i → y ≠ 192 + i → A y = a_axes y) → xr_4 A a_parents n i → post (f_nodeCount, f_innermost, f_draftLength, f_rulesGiven, f_wrongToken, f_wantedCount, f_inCondition, f_depth, f_cursor, f_outcome, f_outputCount, f_stepsTaken, a_names, a_values, a_parents, a_kinds, a_operands, a_priorities, a_givenAt, a_wanted, A, a_passing, a_ends, a_openers, a_table, a_results, a_matched, a_listLeft, a_listNode, a_listPosition, a_listSize, a_listBody, a_listReturn, a_outputs)) : wX_relateSideways_24 post (nI i) z0 f_nodeCount f_innermost f_draftLength f_rulesGiven f_wrongToken f_wantedCount f_inCondition f_depth f_cursor f_outcome f_outputCount f_stepsTaken a_names a_values a_parents a_kinds a_operands a_priorities a_givenAt a_wanted a_axes a_passing a_ends a_openers a_table a_results a_matched a_listLeft a_listNode a_listPosition a_listSize a_listBody a_listReturn a_outputs := by
  have hn := T.1
  have e120 : (120 : Int32) + nI i = nI (120 + i) := nI_add 120 i
  have e144 : (144 : Int32) + nI i = nI (144 + i) := nI_add 144 i
  have e168 : (168 : Int32) + nI i = nI (168 + i) := nI_add 168 i
  have e192 : (192 : Int32) + nI i = nI (192 + i) := nI_add 192 i
  have e72 : (72 : Int32) + nI i = nI (72 + i) := nI_add 72 i
  have e96 : (96 : Int32) + nI i = nI (96 + i) := nI_add 96 i
  intro x4 h4 x5 h5
  have b4 : ∀ m, m < 32 → bt x4 m = decide (m < i) := fun m hm => by rw [h4]; exact xr_lt1 i (by omega) m hm
  have b5 : ∀ m, m < 32 → (bt x5 m = true ↔ m < n ∧ i < m) := fun m hm => by
    rw [h5, b_and, b_and, ms_not _ hm, ms_not _ hm, b4 m hm, ms_1 i (by omega) m hm, hps 6 (by omega) m hm]
    simp only [decide_true, Bool.true_or, Bool.and_true, Bool.and_eq_true, Bool.not_eq_true', decide_eq_true_eq, decide_eq_false_iff_not]
    omega
  have root : a_parents i < 0 → ∀ m, m < n → a_parents m = a_parents i → m = 0 ∧ i = 0 := fun z m hm e => ⟨(tr_root T hm (e ▸ z)).1, (tr_root T hi z).1⟩
  refine ⟨by rw [e120]; exact vp_in_nI (by omega) (by omega), nm_r (e' := upd a_axes (120 + i) (z0 &&& x5)) (by rw [e120, nI_clamp (by omega)]) ⟨by rw [e144]; exact vp_in_nI (by omega) (by omega), nm_r (e' := upd (upd a_axes (120 + i) (z0 &&& x5)) (144 + i) (z0 &&& x4)) (by rw [e144, nI_clamp (by omega)]) ⟨by rw [e72]; exact vp_in_nI (by omega) (by omega), by rw [e168]; exact vp_in_nI (by omega) (by omega),
    nm_r (e' := upd (upd (upd a_axes (120 + i) (z0 &&& x5)) (144 + i) (z0 &&& x4)) (168 + i) (x5 &&& (a_axes (72 + i) ^^^ (-1)))) (by rw [e168, e72, nI_clamp (by omega), nI_clamp (by omega), pk_un (j := 72 + i) (by omega), pk_un (j := 72 + i) (by omega)]) ⟨by rw [e96]; exact vp_in_nI (by omega) (by omega), by rw [e192]; exact vp_in_nI (by omega) (by omega),
    nm_r (e' := upd (upd (upd (upd a_axes (120 + i) (z0 &&& x5)) (144 + i) (z0 &&& x4)) (168 + i) (x5 &&& (a_axes (72 + i) ^^^ (-1)))) (192 + i) (x4 &&& (a_axes (96 + i) ^^^ (-1)))) (by rw [e192, e96, nI_clamp (by omega), nI_clamp (by omega), pk_un (j := 96 + i) (by omega), pk_un (j := 96 + i) (by omega), pk_un (j := 96 + i) (by omega)]) (hp _ (fun y y1 y2 y3 y4 => by rw [pk_un y4, pk_un y3, pk_un y2, pk_un y1]) fun m hm => ⟨?_, ?_, ?_, ?_⟩)⟩⟩⟩⟩
  · rw [pk_un (by omega), pk_un (by omega), pk_un (by omega), pk_us, b_and]
    apply xr_bool
    rw [tr_on5]
    simp only [Bool.and_eq_true, decide_eq_true_eq, hz m hm, b5 m hm]
    constructor
    · rintro ⟨⟨x, y, _⟩, _, w⟩; exact ⟨x, y, w⟩
    · rintro ⟨x, y, w⟩
      refine ⟨⟨x, y, fun z => ?_⟩, x, w⟩
      have := root z m x y; omega
  · rw [pk_un (by omega), pk_un (by omega), pk_us, b_and]
    apply xr_bool
    rw [tr_on6]
    simp only [Bool.and_eq_true, decide_eq_true_eq, hz m hm, b4 m hm]
    constructor
    · rintro ⟨⟨x, y, _⟩, w⟩; exact ⟨x, y, w⟩
    · rintro ⟨x, y, w⟩
      refine ⟨⟨x, y, fun z => ?_⟩, w⟩
      have := root z m x y; omega
  · rw [pk_un (by omega), pk_us, b_and, ms_not _ hm]
    apply xr_bool
    rw [tr_on7]
    have d := hd m hm
    cases hb : bt (a_axes (72 + i)) m
    · rw [hb] at d
      simp only [Bool.and_eq_true, decide_eq_true_eq, b5 m hm, Bool.not_false, and_true]
      constructor
      · rintro ⟨x, y⟩
        refine ⟨x, y, ?_⟩
        cases ht : tr_a a_parents i m
        · rfl
        · exact absurd (d.mpr ⟨x, ht⟩) (by decide)
      · rintro ⟨x, y, _⟩; exact ⟨x, y⟩
    · rw [hb] at d
      have := d.mp rfl
      rw [this.2]
      simp
  · rw [pk_us, b_and, ms_not _ hm, b4 m hm, ha m hm]
    rw [tr_on8]
    by_cases z : m < i
    · rw [decide_eq_true z, decide_eq_true (show m < n by omega), Bool.true_and, Bool.true_and]
    · rw [decide_eq_false z, Bool.false_and, Bool.and_false]
theorem xr_side {post : SX → Prop} {n i : Nat} (T : tr_T a_parents n) (hi : i < n) (hd : ∀ m, m < 32 → (bt (a_axes (72 + i)) m = true ↔ m < n ∧ tr_a a_parents i m = true)) (ha : ∀ m, m < 32 → bt (a_axes (96 + i)) m = tr_a a_parents m i) (hc : ∀ a, a < n → ∀ m, m < 32 → (bt (a_axes (24 + a)) m = true ↔ m < n ∧ a_parents m = nI a)) (hps : xr_p a_passing a_names n)
    (hp : ∀ A : Nat → Int32, (∀ y, y ≠ 120 + i → y ≠ 144 + i → y ≠ 168 + i → y ≠ 192 + i → A y = a_axes y) → xr_4 A a_parents n i → post (f_nodeCount, f_innermost, f_draftLength, f_rulesGiven, f_wrongToken, f_wantedCount, f_inCondition, f_depth, f_cursor, f_outcome, f_outputCount, f_stepsTaken, a_names, a_values, a_parents, a_kinds, a_operands, a_priorities, a_givenAt, a_wanted, A, a_passing, a_ends, a_openers, a_table, a_results, a_matched, a_listLeft, a_listNode, a_listPosition, a_listSize, a_listBody, a_listReturn, a_outputs)) : wpX_relateSideways post (f_nodeCount, f_innermost, f_draftLength, f_rulesGiven, f_wrongToken, f_wantedCount, f_inCondition, f_depth, f_cursor, f_outcome, f_outputCount, f_stepsTaken, a_names, a_values, a_parents, a_kinds, a_operands, a_priorities, a_givenAt, a_wanted, a_axes, a_passing, a_ends, a_openers, a_table, a_results, a_matched, a_listLeft, a_listNode, a_listPosition, a_listSize, a_listBody, a_listReturn, a_outputs) (nI i) := by
  have hn := T.1
  refine ⟨vp_in_nI (by omega) (by omega), nm_r (e' := a_parents i) (by rw [nI_clamp (by omega)]) ?_⟩
  by_cases h : a_parents i < 0
  · refine br_f (Int32.not_le.mpr h) (xr_side24 T hi hd ha (fun m hm => ?_) hps hp)
    rw [b_0]
    exact ⟨fun z => (nomatch z), fun ⟨_, _, z⟩ => absurd h z⟩
  · obtain ⟨p, hpi, e⟩ := tr_par T hi h
    have e24 : (24 : Int32) + a_parents i = nI (24 + p) := by rw [e]; exact nI_add 24 p
    refine br_t (Int32.not_lt.mp h) ⟨by rw [e24]; exact vp_in_nI (by omega) (by omega), ?_⟩
    rw [e24, nI_clamp (by omega)]
    refine xr_side24 T hi hd ha (fun m hm => ?_) hps hp
    rw [hc p (by omega) m hm, e]
    exact ⟨fun ⟨x, y⟩ => ⟨x, y, nI_pos (by omega)⟩, fun ⟨x, y, _⟩ => ⟨x, y⟩⟩
theorem xr_l125 {post : SX → Prop} {n : Nat} (T : tr_T a_parents n) (hps : xr_p a_passing a_names n) (hp : ∀ A : Nat → Int32, xr_2 A a_parents n 0 → (∀ a, a < n → xr_4 A a_parents n a) → post (nI n, f_innermost, f_draftLength, f_rulesGiven, f_wrongToken, f_wantedCount, f_inCondition, f_depth, f_cursor, f_outcome, f_outputCount, f_stepsTaken, a_names, a_values, a_parents, a_kinds, a_operands, a_priorities, a_givenAt, a_wanted, A, a_passing, a_ends, a_openers, a_table, a_results, a_matched, a_listLeft, a_listNode, a_listPosition, a_listSize, a_listBody, a_listReturn, a_outputs)) :
    ∀ d i k A, i + d = n → d < k → xr_2 A a_parents n 0 → (∀ a, a < i → xr_4 A a_parents n a) → wX_relateNodes_125 post k (nI i) (nI n) f_innermost f_draftLength f_rulesGiven f_wrongToken f_wantedCount f_inCondition f_depth f_cursor f_outcome f_outputCount f_stepsTaken a_names a_values a_parents a_kinds a_operands a_priorities a_givenAt a_wanted A a_passing a_ends a_openers a_table a_results a_matched a_listLeft a_listNode a_listPosition a_listSize a_listBody a_listReturn a_outputs := by
  have hn := T.1
  intro d
  induction d with
  | zero =>
    intro i k A hi hk h2 h4
    obtain ⟨k, rfl⟩ : ∃ x, k = x + 1 := ⟨k - 1, by omega⟩
    have e : i = n := by omega
    subst e
    exact br_t (nI_le (Nat.le_refl _) (by omega)) (hp A h2 h4)
  | succ d ih =>
    intro i k A hi hk h2 h4
    obtain ⟨k, rfl⟩ : ∃ x, k = x + 1 := ⟨k - 1, by omega⟩
    refine br_f (nI_ge (by omega) (by omega)) (xr_side (a_axes := A) T (by omega) (fun m hm => xr_desc T h2 (by omega) hm) (fun m hm => (h2 i (by omega) m hm).2.2.1) (fun a ha m hm => (h2 a ha m hm).2.2.2.1.trans ⟨fun z => z.2, fun z => ⟨by omega, z⟩⟩) hps fun B fr h => nm_r (nI_1 i) (ih (i + 1) k B (by omega) (by omega) ?_ ?_))
    · intro a ha m hm
      rw [fr a (by omega) (by omega) (by omega) (by omega), fr (48 + a) (by omega) (by omega) (by omega) (by omega), fr (96 + a) (by omega) (by omega) (by omega) (by omega), fr (24 + a) (by omega) (by omega) (by omega) (by omega), fr (72 + a) (by omega) (by omega) (by omega) (by omega)]
      exact h2 a ha m hm
    · intro a ha
      rcases Nat.lt_or_ge a i with z | z
      · intro m hm
        rw [fr (120 + a) (by omega) (by omega) (by omega) (by omega), fr (144 + a) (by omega) (by omega) (by omega) (by omega), fr (168 + a) (by omega) (by omega) (by omega) (by omega), fr (192 + a) (by omega) (by omega) (by omega) (by omega)]
        exact h4 a z m hm
      · have : a = i := by omega
        rw [this]; exact h
theorem xr_fin {A P : Nat → Int32} {n : Nat} (T : tr_T P n) (h2 : xr_2 A P n 0) (h4 : ∀ a, a < n → xr_4 A P n a) : xs_ax A P n := by
  have hn := T.1
  intro ax a m hax ha hm
  obtain ⟨q0, q2, q4, q1, _⟩ := h2 a ha m hm
  have q3 := xr_desc T h2 ha hm
  obtain ⟨p5, p6, p7, p8⟩ := h4 a ha m hm
  rcases (show ax = 0 ∨ ax = 1 ∨ ax = 2 ∨ ax = 3 ∨ ax = 4 ∨ ax = 5 ∨ ax = 6 ∨ ax = 7 ∨ ax = 8 by omega) with rfl | rfl | rfl | rfl | rfl | rfl | rfl | rfl | rfl
  · rw [show 0 * 24 + a = a by omega, q0]
    rw [tr_on0]
    by_cases z : m = a
    · rw [decide_eq_true z, decide_eq_true (by omega), Bool.true_and]
    · rw [decide_eq_false z, Bool.and_false]
  · rw [show 1 * 24 + a = 24 + a by omega]
    apply xr_bool
    rw [tr_on1, q1, Bool.and_eq_true, decide_eq_true_eq, decide_eq_true_eq]
    exact ⟨fun z => z.2, fun z => ⟨by omega, z⟩⟩
  · rw [show 2 * 24 + a = 48 + a by omega, q2]
    rw [tr_on2]
    by_cases z : P a = nI m
    · have := xr_child (A := A) T (c := a) (a := m) ha
      have hmn : m < n := by
        rcases T.2 a ha with ⟨_, g⟩ | ⟨_, p', hp', g⟩
        · rw [g] at z
          exact absurd (z ▸ tr_m1) (nI_pos (by omega))
        · rw [g] at z
          have := (nI_eq (by omega) (by omega)).mp z
          omega
      rw [decide_eq_true z, decide_eq_true hmn]; rfl
    · rw [decide_eq_false z, Bool.and_false]
  · rw [show 3 * 24 + a = 72 + a by omega]
    apply xr_bool
    rw [tr_on3, q3, Bool.and_eq_true, decide_eq_true_eq]
  · rw [show 4 * 24 + a = 96 + a by omega, q4]
    rw [tr_on4]
    cases ht : tr_a P m a
    · rw [Bool.and_false]
    · have := tr_alt T a ha ht
      rw [decide_eq_true (by omega)]; rfl
  · rw [show 5 * 24 + a = 120 + a by omega]; exact p5
  · rw [show 6 * 24 + a = 144 + a by omega]; exact p6
  · rw [show 7 * 24 + a = 168 + a by omega]; exact p7
  · rw [show 8 * 24 + a = 192 + a by omega]; exact p8
end
section
/-! the class: relateNodes and tabulate -/
variable {f_nodeCount f_innermost f_draftLength f_rulesGiven f_wrongToken f_wantedCount f_inCondition f_depth f_cursor f_outcome f_outputCount f_stepsTaken : Int32} {a_names a_values a_parents a_kinds a_operands a_priorities a_givenAt a_wanted a_axes a_passing a_ends a_openers a_table a_results a_matched a_listLeft a_listNode a_listPosition a_listSize a_listBody a_listReturn a_outputs : Nat → Int32}
theorem xr_l108 {post : SX → Prop} {n : Nat} (T : tr_T a_parents n) (hp : ∀ A : Nat → Int32, xr_2 A a_parents n 0 → ∃ k, wX_relateNodes_125 post k 0 (nI n) f_innermost f_draftLength f_rulesGiven f_wrongToken f_wantedCount f_inCondition f_depth f_cursor f_outcome f_outputCount f_stepsTaken a_names a_values a_parents a_kinds a_operands a_priorities a_givenAt a_wanted A a_passing a_ends a_openers a_table a_results a_matched a_listLeft a_listNode a_listPosition a_listSize a_listBody a_listReturn a_outputs) :
    ∀ k f A, k ≤ n → k < f → xr_2 A a_parents n k → wX_relateNodes_108 post f (nI k - 1) (nI n) f_innermost f_draftLength f_rulesGiven f_wrongToken f_wantedCount f_inCondition f_depth f_cursor f_outcome f_outputCount f_stepsTaken a_names a_values a_parents a_kinds a_operands a_priorities a_givenAt a_wanted A a_passing a_ends a_openers a_table a_results a_matched a_listLeft a_listNode a_listPosition a_listSize a_listBody a_listReturn a_outputs := by
  have hn := T.1
  intro k
  induction k with
  | zero =>
    intro f A _ hf h2
    obtain ⟨f, rfl⟩ : ∃ x, f = x + 1 := ⟨f - 1, by omega⟩
    exact br_t (by decide) (hp A h2)
  | succ k ih =>
    intro f A hk hf h2
    obtain ⟨f, rfl⟩ : ∃ x, f = x + 1 := ⟨f - 1, by omega⟩
    rw [nI_pred]
    exact br_f (nI_pos (by omega)) (xr_down (a_axes := A) T (by omega) h2 fun B h => nm_r (xw_m1 k) (ih f B (by omega) (by omega) h))
theorem xr_l23 {post : SX → Prop} {n : Nat} (T : tr_T a_parents n) (hN : ∀ i, i < n → ∃ t, t < 6 ∧ a_names i = nI t) (hp : ∀ A Q : Nat → Int32, xr_1 A a_parents n → xr_p Q a_names n → ∃ k, wX_relateNodes_108 post k (nI n - 1) (nI n) f_innermost f_draftLength f_rulesGiven f_wrongToken f_wantedCount f_inCondition f_depth f_cursor f_outcome f_outputCount f_stepsTaken a_names a_values a_parents a_kinds a_operands a_priorities a_givenAt a_wanted A Q a_ends a_openers a_table a_results a_matched a_listLeft a_listNode a_listPosition a_listSize a_listBody a_listReturn a_outputs) :
    ∀ d i f A Q, i + d = n → d < f → xr_1 A a_parents i → xr_p Q a_names i → wX_relateNodes_23 post f (nI i) (nI n) f_innermost f_draftLength f_rulesGiven f_wrongToken f_wantedCount f_inCondition f_depth f_cursor f_outcome f_outputCount f_stepsTaken a_names a_values a_parents a_kinds a_operands a_priorities a_givenAt a_wanted A Q a_ends a_openers a_table a_results a_matched a_listLeft a_listNode a_listPosition a_listSize a_listBody a_listReturn a_outputs := by
  have hn := T.1
  intro d
  induction d with
  | zero =>
    intro i f A Q hi hf h1 h2
    obtain ⟨f, rfl⟩ : ∃ x, f = x + 1 := ⟨f - 1, by omega⟩
    have e : i = n := by omega
    subst e
    exact br_t (nI_le (Nat.le_refl _) (by omega)) (nm_e (hp A Q h1 h2))
  | succ d ih =>
    intro i f A Q hi hf h1 h2
    obtain ⟨f, rfl⟩ : ∃ x, f = x + 1 := ⟨f - 1, by omega⟩
    obtain ⟨t, ht, et⟩ := hN i (by omega)
    have e0 : (0 : Int32) + nI i = nI i := Int32.zero_add _
    have e24 : (24 : Int32) + nI i = nI (24 + i) := nI_add 24 i
    have e72 : (72 : Int32) + nI i = nI (72 + i) := nI_add 72 i
    have ea : a_names (nI i).toNatClampNeg = nI t := by rw [nI_clamp (by omega)]; exact et
    have it : vp_in (a_names (nI i).toNatClampNeg) 7 := by rw [ea]; exact vp_in_nI (by omega) (by omega)
    refine br_f (nI_ge (by omega) (by omega)) (nm_e ⟨vp_in_nI (by omega) (by omega), it, it, nm_r (e' := upd Q t (Q t ||| ((1 : Int32) <<< (nI i &&& 31)))) (by rw [ea, nI_clamp (by omega)]) (nm_r (e' := upd (upd Q t (Q t ||| ((1 : Int32) <<< (nI i &&& 31)))) 6 (Q 6 ||| ((1 : Int32) <<< (nI i &&& 31)))) (by rw [pk_un (j := 6) (by omega)]) ⟨by rw [e0]; exact vp_in_nI (by omega) (by omega), nm_r (e' := upd A i ((1 : Int32) <<< (nI i &&& 31))) (by rw [e0, nI_clamp (by omega)]) ⟨by rw [e24]; exact vp_in_nI (by omega) (by omega), nm_r (e' := upd (upd A i ((1 : Int32) <<< (nI i &&& 31))) (24 + i) 0) (by rw [e24, nI_clamp (by omega)]) ⟨by rw [e72]; exact vp_in_nI (by omega) (by omega), nm_r (e' := upd (upd (upd A i ((1 : Int32) <<< (nI i &&& 31))) (24 + i) 0) (72 + i) 0) (by rw [e72, nI_clamp (by omega)]) ?_⟩⟩⟩)⟩)
    refine xr_up T (by omega) (fun a ha m hm => ?_) fun B fr b2 b4 => nm_r (nI_1 i) (ih (i + 1) f B _ (by omega) (by omega) ?_ ?_)
    · rw [pk_un (by omega), pk_un (by omega), pk_un (by omega)]
      exact (h1 a ha m hm).2.2.2.2
    · intro a ha m hm
      rcases Nat.lt_or_ge a i with z | z
      · rw [fr a (by omega) (by omega), fr (24 + a) (by omega) (by omega), fr (72 + a) (by omega) (by omega), fr (48 + a) (by omega) (by omega), fr (96 + a) (by omega) (by omega),
          pk_un (j := a) (by omega), pk_un (j := a) (by omega), pk_un (j := a) (by omega), pk_un (j := 24 + a) (by omega), pk_un (j := 24 + a) (by omega), pk_un (j := 24 + a) (by omega), pk_un (j := 72 + a) (by omega), pk_un (j := 72 + a) (by omega), pk_un (j := 72 + a) (by omega), pk_un (j := 48 + a) (by omega), pk_un (j := 48 + a) (by omega), pk_un (j := 48 + a) (by omega), pk_un (j := 96 + a) (by omega), pk_un (j := 96 + a) (by omega), pk_un (j := 96 + a) (by omega)]
        exact h1 a z m hm
      · have : a = i := by omega
        subst this
        rw [fr a (by omega) (by omega), fr (24 + a) (by omega) (by omega), fr (72 + a) (by omega) (by omega), pk_un (j := a) (by omega), pk_un (j := a) (by omega), pk_us, pk_un (j := 24 + a) (by omega), pk_us, pk_us]
        exact ⟨ms_1 a (by omega) m hm, rfl, rfl, b2 m hm, b4 m hm⟩
    · intro s hs m hm
      have q6 := h2 6 (by omega) m hm
      by_cases z6 : s = 6
      · subst z6
        rw [pk_us, ms_set _ (by omega) hm, q6]
        simp only [decide_true, Bool.true_or, Bool.and_true]
        by_cases zi : m = i
        · rw [decide_eq_true zi, decide_eq_true (show m < i + 1 by omega), Bool.or_true]
        · rw [decide_eq_false zi, Bool.or_false]
          by_cases zl : m < i
          · rw [decide_eq_true zl, decide_eq_true (show m < i + 1 by omega)]
          · rw [decide_eq_false zl, decide_eq_false (show ¬ m < i + 1 by omega)]
      · rw [pk_un z6, decide_eq_false z6, Bool.false_or]
        have qs := h2 s hs m hm
        rw [decide_eq_false z6, Bool.false_or] at qs
        by_cases zt : s = t
        · subst zt
          rw [pk_us, ms_set _ (by omega) hm, qs]
          by_cases zi : m = i
          · rw [zi, et, decide_eq_true rfl, decide_eq_true rfl, decide_eq_true (show i < i + 1 by omega), Bool.or_true, Bool.true_and]
          · rw [decide_eq_false zi, Bool.or_false]
            by_cases zl : m < i
            · rw [decide_eq_true zl, decide_eq_true (show m < i + 1 by omega)]
            · rw [decide_eq_false zl, decide_eq_false (show ¬ m < i + 1 by omega)]
        · rw [pk_un zt, qs]
          by_cases zi : m = i
          · rw [zi, et, decide_eq_false (fun y => zt ((nI_eq (by omega) (by omega)).mp y).symm), Bool.and_false, Bool.and_false]
          · by_cases zl : m < i
            · rw [decide_eq_true zl, decide_eq_true (show m < i + 1 by omega)]
            · rw [decide_eq_false zl, decide_eq_false (show ¬ m < i + 1 by omega)]
theorem xr_l2 {post : SX → Prop} (hp : ∀ Q : Nat → Int32, (∀ t, t < 7 → Q t = 0) → ∃ k, wX_relateNodes_23 post k 0 f_nodeCount f_innermost f_draftLength f_rulesGiven f_wrongToken f_wantedCount f_inCondition f_depth f_cursor f_outcome f_outputCount f_stepsTaken a_names a_values a_parents a_kinds a_operands a_priorities a_givenAt a_wanted a_axes Q a_ends a_openers a_table a_results a_matched a_listLeft a_listNode a_listPosition a_listSize a_listBody a_listReturn a_outputs) :
    ∀ d i f Q, i + d = 7 → d < f → (∀ t, t < i → Q t = 0) → wX_relateNodes_2 post f_nodeCount f_innermost f_draftLength f_rulesGiven f_wrongToken f_wantedCount f_inCondition f_depth f_cursor f_outcome f_outputCount f_stepsTaken f (nI i) a_names a_values a_parents a_kinds a_operands a_priorities a_givenAt a_wanted a_axes Q a_ends a_openers a_table a_results a_matched a_listLeft a_listNode a_listPosition a_listSize a_listBody a_listReturn a_outputs := by
  intro d
  induction d with
  | zero =>
    intro i f Q hi hf h
    obtain ⟨f, rfl⟩ : ∃ x, f = x + 1 := ⟨f - 1, by omega⟩
    have e : i = 7 := by omega
    subst e
    exact br_t (by decide) (hp Q h)
  | succ d ih =>
    intro i f Q hi hf h
    obtain ⟨f, rfl⟩ : ∃ x, f = x + 1 := ⟨f - 1, by omega⟩
    refine br_f (nI_ge (b := 7) (by omega) (by decide)) ⟨vp_in_nI (by omega) (by omega), nm_r (e' := upd Q i 0) (by rw [nI_clamp (by omega)]) (nm_r (nI_1 i) (ih (i + 1) f _ (by omega) (by omega) fun t ht => ?_))⟩
    rcases Nat.lt_or_ge t i with z | z
    · rw [pk_un (by omega)]; exact h t z
    · have : t = i := by omega
      rw [this, pk_us]
theorem xw_relateNodes {post : SX → Prop} {n : Nat} (T : tr_T a_parents n) (hN : ∀ i, i < n → ∃ t, t < 6 ∧ a_names i = nI t) (hp : ∀ A Q : Nat → Int32, xs_ax A a_parents n → xs_ps Q a_names n → post (nI n, f_innermost, f_draftLength, f_rulesGiven, f_wrongToken, f_wantedCount, f_inCondition, f_depth, f_cursor, f_outcome, f_outputCount, f_stepsTaken, a_names, a_values, a_parents, a_kinds, a_operands, a_priorities, a_givenAt, a_wanted, A, Q, a_ends, a_openers, a_table, a_results, a_matched, a_listLeft, a_listNode, a_listPosition, a_listSize, a_listBody, a_listReturn, a_outputs)) : wpX_relateNodes post (nI n, f_innermost, f_draftLength, f_rulesGiven, f_wrongToken, f_wantedCount, f_inCondition, f_depth, f_cursor, f_outcome, f_outputCount, f_stepsTaken, a_names, a_values, a_parents, a_kinds, a_operands, a_priorities, a_givenAt, a_wanted, a_axes, a_passing, a_ends, a_openers, a_table, a_results, a_matched, a_listLeft, a_listNode, a_listPosition, a_listSize, a_listBody, a_listReturn, a_outputs) := by
  have hn := T.1
  refine ⟨8, xr_l2 (fun Q0 h0 => ⟨n + 1, xr_l23 T hN (fun A Q h1 hq => ⟨n + 1, xr_l108 T (fun B h2 => ⟨n + 1, xr_l125 T hq (fun C h2' h4 => ?_) n 0 (n + 1) B (by omega) (by omega) h2 (fun a ha => absurd ha (by omega))⟩) n (n + 1) A (Nat.le_refl _) (by omega) ?_⟩) n 0 (n + 1) a_axes Q0 (by omega) (by omega) (fun a ha => absurd ha (by omega)) ?_⟩) 7 0 8 a_passing rfl (by omega) (fun t ht => absurd ht (by omega))⟩
  · exact hp C Q (xr_fin T h2' h4) (fun t m ht hm => hq t ht m hm)
  · intro a ha m hm
    obtain ⟨q0, q1, q3, q2, q4⟩ := h1 a ha m hm
    refine ⟨q0, q2, q4, ?_, ?_⟩
    · rw [q1, b_0]
      exact ⟨fun z => (nomatch z), fun z => absurd z.1 (by omega)⟩
    · rw [q3, b_0]
      exact ⟨fun z => (nomatch z), fun ⟨_, c, c1, c2, _⟩ => absurd c1 (by omega)⟩
  · intro t ht m hm
    rw [h0 t ht, b_0, decide_eq_false (show ¬ m < 0 by omega), Bool.false_and]
end
section
/-! the class: the whole table -/
variable {f_nodeCount f_innermost f_draftLength f_rulesGiven f_wrongToken f_wantedCount f_inCondition f_depth f_cursor f_outcome f_outputCount f_stepsTaken : Int32} {a_names a_values a_parents a_kinds a_operands a_priorities a_givenAt a_wanted a_axes a_passing a_ends a_openers a_table a_results a_matched a_listLeft a_listNode a_listPosition a_listSize a_listBody a_listReturn a_outputs : Nat → Int32}
/-- each slot's tokens; the draft's is the seventh -/
def xt_S (a_kinds a_operands : Nat → Int32) (K : Nat → Nat → Nat) (len : Nat → Nat) (r : Nat) : Prop :=
  gm_W (K r) (len r) ∧ xs_k a_kinds (32 * r) (K r) ∧ ∀ c, c < len r → K r c = 15 → ∃ v, v < 72 ∧ v % 8 < 7 ∧ a_operands (32 * r + c) = nI v
/-- what is known of a cell that is tabulated -/
def xt_C (a_operands V P N : Nat → Int32) (K : Nat → Nat → Nat) (len : Nat → Nat) (n : Nat) (E B T : Nat → Int32) (r c : Nat) : Prop :=
  E (32 * r + c) = nI (32 * r + gm_e (K r) c) ∧
  (c < len r → nu_TE (K r) (fun x => a_operands (32 * r + x)) V P N (len r) n (fun x a => T ((32 * r + x) * 24 + a)) c) ∧
  (c < len r → (K r c = 21 ∨ K r c = 24 ∨ K r c = 25) → B (32 * r + gm_e (K r) c - 1) = nI (32 * r + c))
def xt_D (a_operands V P N : Nat → Int32) (K : Nat → Nat → Nat) (len : Nat → Nat) (n : Nat) (E B T : Nat → Int32) (y z : Nat) : Prop :=
  ∀ r c, c < 32 → y ≤ 32 * r + c → 32 * r + c < z → xt_C a_operands V P N K len n E B T r c
theorem gm_opu {K : Nat → Nat} {len c c' : Nat} (W : gm_W K len) (hc : c < len) (hc' : c' < len) (h : K c = 21 ∨ K c = 24 ∨ K c = 25) (h' : K c' = 21 ∨ K c' = 24 ∨ K c' = 25) (e : gm_e K c = gm_e K c') (lt : c < c') : False := by
  have op : ∀ c, c < len → (K c = 21 ∨ K c = 24 ∨ K c = 25) → gm_od K (gm_e K c) = gm_od K c ∧ ∀ x, c < x → x < gm_e K c → gm_od K c + 1 ≤ gm_od K x := by
    intro c hc h
    have L := W.2.2 c hc
    rcases h with h | h | h
    · obtain ⟨_, _, _, _, _, p⟩ := L.2.2.2.2.2.2.2.2.2.2.2.2.1 h
      exact p
    · obtain ⟨_, _, _, _, _, _, _, p⟩ := L.2.2.2.2.2.2.2.2.2.2.2.2.2.2.2.1 h
      exact p
    · obtain ⟨_, _, _, _, _, _, _, p⟩ := L.2.2.2.2.2.2.2.2.2.2.2.2.2.2.2.2.1 h
      exact p
  obtain ⟨a1, a2⟩ := op c hc h
  obtain ⟨b1, b2⟩ := op c' hc' h'
  have := (W.2.2 c' hc').1
  have := a2 c' lt (by omega)
  rw [e] at a1
  omega
theorem xt_keep {a_operands V P N : Nat → Int32} {K : Nat → Nat → Nat} {len : Nat → Nat} {n : Nat} {E B T E' B' T' : Nat → Int32} {r c y : Nat} (h : xt_C a_operands V P N K len n E B T r c) (hy : y < 32 * r + c) (hE : ∀ x, x ≠ y → E' x = E x) (hT : ∀ x, (x < y * 24 ∨ y * 24 + 24 ≤ x) → T' x = T x)
    (hB : c < len r → (K r c = 21 ∨ K r c = 24 ∨ K r c = 25) → B' (32 * r + gm_e (K r) c - 1) = B (32 * r + gm_e (K r) c - 1)) : xt_C a_operands V P N K len n E' B' T' r c := by
  obtain ⟨h1, h2, h3⟩ := h
  refine ⟨by rw [hE _ (by omega)]; exact h1, fun hc => nu_TEc (fun x a hx => (hT _ (Or.inr ?_)).symm) (h2 hc), fun hc ho => by rw [hB hc ho]; exact h3 hc ho⟩
  have : (y + 1) * 24 ≤ (32 * r + x) * 24 := Nat.mul_le_mul_right 24 (by omega)
  omega
theorem xw_tab_l {post : SX → Prop} {K : Nat → Nat → Nat} {len : Nat → Nat} {nc lo hi : Nat} (hl : lo ≤ hi) (h224 : hi ≤ 224) (hlo : lo % 32 = 0) (hhi : hi % 32 = 0) (hn : nc ≤ 24) (hS : ∀ r, lo ≤ 32 * r → 32 * r < hi → xt_S a_kinds a_operands K len r) (hx : xs_ax a_axes a_parents nc) (hps : xs_ps a_passing a_names nc)
    (hp : ∀ E B T R : Nat → Int32, xt_D a_operands a_values a_parents a_names K len nc E B T lo hi → post (nI nc, f_innermost, f_draftLength, f_rulesGiven, f_wrongToken, f_wantedCount, f_inCondition, f_depth, f_cursor, f_outcome, f_outputCount, f_stepsTaken, a_names, a_values, a_parents, a_kinds, a_operands, a_priorities, a_givenAt, a_wanted, a_axes, a_passing, E, B, T, R, a_matched, a_listLeft, a_listNode, a_listPosition, a_listSize, a_listBody, a_listReturn, a_outputs)) :
    ∀ d f E B T R, lo + d ≤ hi → d < f → xt_D a_operands a_values a_parents a_names K len nc E B T (lo + d) hi → wX_tabulate_8 post (nI lo) f (nI (lo + d) - 1) (nI nc) f_innermost f_draftLength f_rulesGiven f_wrongToken f_wantedCount f_inCondition f_depth f_cursor f_outcome f_outputCount f_stepsTaken a_names a_values a_parents a_kinds a_operands a_priorities a_givenAt a_wanted a_axes a_passing E B T R a_matched a_listLeft a_listNode a_listPosition a_listSize a_listBody a_listReturn a_outputs := by
  intro d
  induction d with
  | zero =>
    intro f E B T R _ hf h
    obtain ⟨f, rfl⟩ : ∃ x, f = x + 1 := ⟨f - 1, by omega⟩
    exact br_t (xw_m1lt (by omega)) (hp E B T R h)
  | succ d ih =>
    intro f E B T R hd hf h
    obtain ⟨f, rfl⟩ : ∃ x, f = x + 1 := ⟨f - 1, by omega⟩
    obtain ⟨r, c, hc, hy⟩ : ∃ r c, c < 32 ∧ lo + d = 32 * r + c := ⟨(lo + d) / 32, (lo + d) % 32, Nat.mod_lt _ (by omega), by omega⟩
    have hr0 : lo ≤ 32 * r := by omega
    have hr1 : 32 * r < hi := by omega
    have hb : 32 * r + 32 ≤ 224 := by omega
    have hr2 : 32 * r + 32 ≤ hi := by omega
    obtain ⟨W, hk, hop⟩ := hS r hr0 hr1
    have e0 : nI (lo + (d + 1)) - 1 = nI (32 * r + c) := by rw [show lo + (d + 1) = (32 * r + c) + 1 by omega, nI_pred]
    rw [e0]
    have he : ∀ x, c < x → x < 32 → E (32 * r + x) = nI (32 * r + gm_e (K r) x) := fun x x1 x2 => (h r x x2 (by omega) (by omega)).1
    have hkk := hk c hc
    have k27 := gm_k26 W c
    have hWl := W.1
    have go : ∀ E' B' T' R', xt_D a_operands a_values a_parents a_names K len nc E' B' T' (lo + d) hi → ∀ x3, x3 = nI (32 * r + c) + (-1) → wX_tabulate_8 post (nI lo) f x3 (nI nc) f_innermost f_draftLength f_rulesGiven f_wrongToken f_wantedCount f_inCondition f_depth f_cursor f_outcome f_outputCount f_stepsTaken a_names a_values a_parents a_kinds a_operands a_priorities a_givenAt a_wanted a_axes a_passing E' B' T' R' a_matched a_listLeft a_listNode a_listPosition a_listSize a_listBody a_listReturn a_outputs := fun E' B' T' R' hD => nm_r (e' := nI (lo + d) - 1) (by rw [xw_m1, hy]) (ih f E' B' T' R' (by omega) (by omega) hD)
    have mk : ∀ B' T', (∀ x, (x < (32 * r + c) * 24 ∨ (32 * r + c) * 24 + 24 ≤ x) → T' x = T x) → (∀ r' c', c' < 32 → 32 * r + c < 32 * r' + c' → 32 * r' + c' < hi → c' < len r' → (K r' c' = 21 ∨ K r' c' = 24 ∨ K r' c' = 25) → B' (32 * r' + gm_e (K r') c' - 1) = B (32 * r' + gm_e (K r') c' - 1)) →
        (c < len r → nu_TE (K r) (fun x => a_operands (32 * r + x)) a_values a_parents a_names (len r) nc (fun x a => T' ((32 * r + x) * 24 + a)) c) → (c < len r → (K r c = 21 ∨ K r c = 24 ∨ K r c = 25) → B' (32 * r + gm_e (K r) c - 1) = nI (32 * r + c)) →
        xt_D a_operands a_values a_parents a_names K len nc (upd E (32 * r + c) (nI (32 * r + gm_e (K r) c))) B' T' (lo + d) hi := by
      intro B' T' hT hB hTE hop r' c' hc' h1 h2
      by_cases z : 32 * r' + c' = 32 * r + c
      · have er : r' = r := by omega
        have ec : c' = c := by omega
        subst er ec
        exact ⟨pk_us, hTE, hop⟩
      · exact xt_keep (h r' c' hc' (by omega) h2) (y := 32 * r + c) (by omega) (fun x hx => pk_un hx) hT (fun h3 h4 => hB r' c' hc' (by omega) h2 h3 h4)
    refine br_f (nI_nlt (by omega) (by omega)) ⟨vp_in_nI (by omega) (by omega), nm_r (e' := nI (K r c)) (by rw [nI_clamp (by omega)]; exact hkk) ?_⟩
    refine xw_endOf (a_ends := E) W hb hk hc he ⟨vp_in_nI (by omega) (by omega), nm_r (e' := upd E (32 * r + c) (nI (32 * r + gm_e (K r) c))) (by rw [nI_clamp (by omega)]) ?_⟩
    have tail : K r c ≠ 15 → ¬ (4 ≤ K r c ∧ K r c ≤ 6) → wX_tabulate_68 post (wX_tabulate_8 post (nI lo) f) (nI lo) (nI (32 * r + c)) (nI (K r c)) (nI nc) f_innermost f_draftLength f_rulesGiven f_wrongToken f_wantedCount f_inCondition f_depth f_cursor f_outcome f_outputCount f_stepsTaken a_names a_values a_parents a_kinds a_operands a_priorities a_givenAt a_wanted a_axes a_passing (upd E (32 * r + c) (nI (32 * r + gm_e (K r) c))) B T R a_matched a_listLeft a_listNode a_listPosition a_listSize a_listBody a_listReturn a_outputs := by
      intro n15 n46
      have te : c < len r → nu_TE (K r) (fun x => a_operands (32 * r + x)) a_values a_parents a_names (len r) nc (fun x a => T ((32 * r + x) * 24 + a)) c := fun _ a _ => ⟨fun z => absurd z n15, fun z => absurd z n46⟩
      have o89 : (K r c = 21 ∨ K r c = 24 ∨ K r c = 25) → wX_tabulate_89 post (wX_tabulate_8 post (nI lo) f) (nI lo) (nI (32 * r + c)) (nI nc) f_innermost f_draftLength f_rulesGiven f_wrongToken f_wantedCount f_inCondition f_depth f_cursor f_outcome f_outputCount f_stepsTaken a_names a_values a_parents a_kinds a_operands a_priorities a_givenAt a_wanted a_axes a_passing (upd E (32 * r + c) (nI (32 * r + gm_e (K r) c))) B T R a_matched a_listLeft a_listNode a_listPosition a_listSize a_listBody a_listReturn a_outputs := by
        intro ho
        have hcl : c < len r := by
          rcases Nat.lt_or_ge c (len r) with y | y
          · exact y
          · have := W.2.1 c y; omega
        have l1 := (W.2.2 c hcl).1
        have l2 := (W.2.2 c hcl).2.1
        have ei : (upd E (32 * r + c) (nI (32 * r + gm_e (K r) c))) (nI (32 * r + c)).toNatClampNeg - 1 = nI (32 * r + gm_e (K r) c - 1) := by
          rw [nI_clamp (by omega), pk_us]
          obtain ⟨w, hw⟩ : ∃ w, 32 * r + gm_e (K r) c = w + 1 := ⟨32 * r + gm_e (K r) c - 1, by omega⟩
          rw [hw, nI_pred]; rfl
        refine ⟨vp_in_nI (by omega) (by omega), by rw [ei]; exact vp_in_nI (by omega) (by omega), nm_r (e' := upd B (32 * r + gm_e (K r) c - 1) (nI (32 * r + c))) (by rw [ei, nI_clamp (by omega)]) (go _ _ _ _ (mk _ _ (fun _ _ => rfl) (fun r' c' hc' h1 h2 h3 h4 => pk_un (fun z => ?_)) te (fun _ _ => pk_us)))⟩
        have W' := (hS r' (by omega) (by omega)).1
        have m1 := (W'.2.2 c' h3).1
        have m2 := (W'.2.2 c' h3).2.1
        have hl' := W'.1
        have er : r' = r := by omega
        subst er
        exact gm_opu W hcl h3 ho h4 (by omega) (by omega)
      have k3 : ∀ k, k < 2 ^ 31 → K r c ≠ k → ¬ nI (K r c) = nI k := fun k hk' z => xw_kne W hk' z
      by_cases h21 : K r c = 21
      · exact br_t (by rw [h21]; rfl) (o89 (Or.inl h21))
      · refine br_f (k3 21 (by omega) h21) ?_
        by_cases h24 : K r c = 24
        · exact br_t (by rw [h24]; rfl) (o89 (Or.inr (Or.inl h24)))
        · refine br_f (k3 24 (by omega) h24) ?_
          by_cases h25 : K r c = 25
          · exact br_t (by rw [h25]; rfl) (o89 (Or.inr (Or.inr h25)))
          · exact br_f (k3 25 (by omega) h25) (go _ _ _ _ (mk _ _ (fun _ _ => rfl) (fun _ _ _ _ _ _ _ => rfl) te (fun _ z => absurd z (by omega))))
    by_cases h15 : K r c = 15
    · have hcl : c < len r := by
        rcases Nat.lt_or_ge c (len r) with y | y
        · exact y
        · have := W.2.1 c y; omega
      obtain ⟨v, hv, hv7, ho⟩ := hop c hcl h15
      obtain ⟨q, C, q1, q2, q3, q4, q5, q6, q7⟩ := (W.2.2 c hcl).2.2.2.2.2.2.2.1 h15
      have b1 := (W.2.2 c hcl).2.1
      refine br_t (by rw [h15]; rfl) (xw_tabulateStep (b := 32 * r) (a_table := T) W hb hk (fun x x1 x2 => by rw [pk_un (by omega)]; exact he x x1 (by omega)) hcl C (by omega) hn ho hv hv7 hx hps fun tab res fr sp => go _ _ _ _ (mk _ _ fr (fun _ _ _ _ _ _ _ => rfl) (fun _ a ha => ⟨fun _ q' C' i hi => ?_, fun z => absurd z (by omega)⟩) (fun _ z => absurd z (by omega))))
      have eq := nu_cd_u C' C
      subst eq
      have tt : ∀ x y, c + 1 ≤ x → (fun x a => T ((32 * r + x) * 24 + a)) x y = (fun x a => tab ((32 * r + x) * 24 + a)) x y := fun x y hx => (fr _ (Or.inr (by
        have : (32 * r + c + 1) * 24 ≤ (32 * r + x) * 24 := Nat.mul_le_mul_right 24 (by omega)
        omega))).symm
      exact (sp a ha i hi).trans (xs_Rc tt q1)
    · refine br_f (xw_kne W (k := 15) (by omega) h15) ?_
      by_cases h4 : K r c < 4
      · exact br_t (nI_lt (b := 4) h4 (by omega)) (tail h15 (by omega))
      · refine br_f (nI_nlt (b := 4) (by omega) (by omega)) ?_
        by_cases h6 : 6 < K r c
        · exact br_t (nI_lt (a := 6) h6 (by omega)) (tail h15 (by omega))
        · have hcl : c < len r := by
            rcases Nat.lt_or_ge c (len r) with y | y
            · exact y
            · have := W.2.1 c y; omega
          obtain ⟨p1, p2, p3⟩ := (W.2.2 c hcl).2.2.2.2.1 (by omega)
          have b1 := (W.2.2 c hcl).2.1
          have TE : ∀ x, c < x → x < len r → nu_TE (K r) (fun x => a_operands (32 * r + x)) a_values a_parents a_names (len r) nc (fun x a => T ((32 * r + x) * 24 + a)) x := fun x x1 x2 => (h r x (by omega) (by omega) (by omega)).2.1 x2
          refine br_f (nI_nlt (a := 6) (by omega) (by omega)) (xw_tabulateMeasure (a_table := T) (by omega) hkk (by omega) (by omega) hn (fun a ha i hi z => ?_) fun tab fr sp => go _ _ _ _ (mk _ _ fr (fun _ _ _ _ _ _ _ => rfl) (fun _ a ha => ⟨fun z => absurd z h15, fun _ => ?_⟩) (fun _ z => absurd z (by omega))))
          · exact nu_TEn' W (c + 1) TE (len r - (c + 1)) (c + 1) (Nat.le_refl _) (by omega) p1 a ha i hi z
          · show tab ((32 * r + c) * 24 + a) = nu_m a_values nc (K r c) (tab ((32 * r + (c + 1)) * 24 + a))
            rw [sp a ha, fr _ (Or.inr (by omega))]
            rfl
theorem xw_tabulate {post : SX → Prop} {K : Nat → Nat → Nat} {len : Nat → Nat} {nc lo hi : Nat} (hl : lo ≤ hi) (h224 : hi ≤ 224) (hlo : lo % 32 = 0) (hhi : hi % 32 = 0) (T : tr_T a_parents nc) (hN : ∀ i, i < nc → ∃ t, t < 6 ∧ a_names i = nI t) (hS : ∀ r, lo ≤ 32 * r → 32 * r < hi → xt_S a_kinds a_operands K len r)
    (hp : ∀ A Q E B T R : Nat → Int32, xs_ax A a_parents nc → xt_D a_operands a_values a_parents a_names K len nc E B T lo hi → post (nI nc, f_innermost, f_draftLength, f_rulesGiven, f_wrongToken, f_wantedCount, f_inCondition, f_depth, f_cursor, f_outcome, f_outputCount, f_stepsTaken, a_names, a_values, a_parents, a_kinds, a_operands, a_priorities, a_givenAt, a_wanted, A, Q, E, B, T, R, a_matched, a_listLeft, a_listNode, a_listPosition, a_listSize, a_listBody, a_listReturn, a_outputs)) :
    wpX_tabulate post (nI nc, f_innermost, f_draftLength, f_rulesGiven, f_wrongToken, f_wantedCount, f_inCondition, f_depth, f_cursor, f_outcome, f_outputCount, f_stepsTaken, a_names, a_values, a_parents, a_kinds, a_operands, a_priorities, a_givenAt, a_wanted, a_axes, a_passing, a_ends, a_openers, a_table, a_results, a_matched, a_listLeft, a_listNode, a_listPosition, a_listSize, a_listBody, a_listReturn, a_outputs) (nI lo) (nI hi) :=
  xw_relateNodes T hN fun A Q hA hQ => nm_r (e' := nI (lo + (hi - lo)) - 1) (by rw [show lo + (hi - lo) = hi by omega]) ⟨hi - lo + 1, xw_tab_l hl h224 hlo hhi T.1 hS hA hQ (fun E B T R h => hp A Q E B T R hA h) (hi - lo) _ a_ends a_openers a_table a_results (by omega) (by omega) (fun r c _ h1 h2 => absurd h2 (by omega))⟩
end
section
/-! the reference: ancestors, axes, sets told, ends of paths -/
variable {g_nodes g_inner g_rules g_place g_listed g_depth g_row g_pc g_node g_position g_size g_fault g_put g_steps : Int32} {b_name b_parent b_value b_kind b_with b_count b_bodyAt b_priority b_given b_there b_wanted b_waiting b_within b_list b_left b_reached b_sizes b_each b_backRow b_backPc b_backNode b_backPosition b_backSize b_output : Nat → Int32}
def ys_b (x : Bool) : Int32 := if x = true then 1 else 0
theorem ys_b0 {x : Bool} {A B : Prop} (f : x = false → A) (g : x = true → B) : (ys_b x = 0 → A) ∧ (¬ ys_b x = 0 → B) := by
  cases x
  · exact br_t rfl (f rfl)
  · exact br_f (by decide) (g rfl)
theorem ys_bn (x : Bool) : narrow .boolean (.int (ys_b x)) = .int (ys_b x) := by cases x <;> rfl
theorem yw_above_l {post : Int32 → Prop} {n a : Nat} (T : tr_T b_parent n) (ha : a < 2 ^ 31) : ∀ m f, m < n → m < f → post (ys_b (tr_a b_parent a m)) → wY_above_7 post (nI a) g_nodes g_inner g_rules g_place g_listed g_depth g_row g_pc g_node g_position g_size g_fault g_put g_steps b_name b_parent b_value b_kind b_with b_count b_bodyAt b_priority b_given b_there b_wanted b_waiting b_within b_list b_left b_reached b_sizes b_each b_backRow b_backPc b_backNode b_backPosition b_backSize b_output f (b_parent m) := by
  intro m
  induction m using Nat.strongRecOn with
  | _ m ih =>
    intro f hm hf hp
    obtain ⟨f, rfl⟩ : ∃ x, f = x + 1 := ⟨f - 1, by omega⟩
    have hn := T.1
    by_cases h : b_parent m < 0
    · rw [tr_a0 h] at hp
      refine br_t h (br_f (fun z => ?_) hp)
      rw [z] at h
      exact nI_pos ha h
    · obtain ⟨p, hp', e⟩ := tr_par T hm h
      rw [tr_as T hm hp' e] at hp
      refine br_f h ?_
      rw [e]
      by_cases z : p = a
      · rw [decide_eq_true z, Bool.true_or] at hp
        subst z
        exact br_t rfl (br_t rfl (br_f (nI_pos ha) hp))
      · rw [decide_eq_false z, Bool.false_or] at hp
        exact br_f (fun q => z ((nI_eq (by omega) ha).mp q)) ⟨vp_in_nI (by omega) (by omega), nm_r (e' := b_parent p) (by rw [nI_clamp (by omega)]) (ih p hp' f (by omega) (by omega) hp)⟩
theorem yw_above {post : Int32 → Prop} {n a m : Nat} (T : tr_T b_parent n) (ha : a < 2 ^ 31) (hm : m < n) (hp : post (ys_b (tr_a b_parent a m))) : wpY_above post (g_nodes, g_inner, g_rules, g_place, g_listed, g_depth, g_row, g_pc, g_node, g_position, g_size, g_fault, g_put, g_steps, b_name, b_parent, b_value, b_kind, b_with, b_count, b_bodyAt, b_priority, b_given, b_there, b_wanted, b_waiting, b_within, b_list, b_left, b_reached, b_sizes, b_each, b_backRow, b_backPc, b_backNode, b_backPosition, b_backSize, b_output) (nI a) (nI m) :=
  ⟨vp_in_nI (by have := T.1; omega) (by omega), nm_r (e' := b_parent m) (by rw [nI_clamp (by have := T.1; omega)]) ⟨m + 1, yw_above_l T ha m (m + 1) hm (by omega) hp⟩⟩
theorem yw_on {post : Int32 → Prop} {n ax a m : Nat} (T : tr_T b_parent n) (hx : ax < 9) (ha : a < n) (hm : m < n) (hp : post (ys_b (tr_on b_parent ax a m))) : wpY_on post (g_nodes, g_inner, g_rules, g_place, g_listed, g_depth, g_row, g_pc, g_node, g_position, g_size, g_fault, g_put, g_steps, b_name, b_parent, b_value, b_kind, b_with, b_count, b_bodyAt, b_priority, b_given, b_there, b_wanted, b_waiting, b_within, b_list, b_left, b_reached, b_sizes, b_each, b_backRow, b_backPc, b_backNode, b_backPosition, b_backSize, b_output) (nI ax) (nI a) (nI m) := by
  have hn := T.1
  have ia : vp_in (nI a) 24 := vp_in_nI (by omega) (by omega)
  have im : vp_in (nI m) 24 := vp_in_nI (by omega) (by omega)
  have ca : (nI a).toNatClampNeg = a := nI_clamp (by omega)
  have cm : (nI m).toNatClampNeg = m := nI_clamp (by omega)
  have dc : ∀ (c : Prop) [Decidable c], post (ys_b (decide c)) → (c → post 1) ∧ (¬ c → post 0) := fun c _ h => by
    by_cases z : c
    · rw [decide_eq_true z] at h; exact br_t z h
    · rw [decide_eq_false z] at h; exact br_f z h
  have nt : ∀ x : Bool, post (ys_b (!x)) → (ys_b x = 0 → post 1) ∧ (¬ ys_b x = 0 → post 0) := fun x h => ys_b0 (fun z => by rw [z] at h; exact h) (fun z => by rw [z] at h; exact h)
  rcases (show ax = 0 ∨ ax = 1 ∨ ax = 2 ∨ ax = 3 ∨ ax = 4 ∨ ax = 5 ∨ ax = 6 ∨ ax = 7 ∨ ax = 8 by omega) with rfl | rfl | rfl | rfl | rfl | rfl | rfl | rfl | rfl
  · rw [tr_on0] at hp
    refine br_f (by decide) (br_f (by decide) (br_t (by decide) (?_)))
    refine pk_eq m a (fun z => ?_) (fun z => ?_)
    · rw [decide_eq_true z] at hp; exact hp
    · rw [decide_eq_false z] at hp; exact hp
  · rw [tr_on1] at hp
    refine br_f (by decide) (br_f (by decide) (br_f (by decide) (br_t (by decide) (⟨im, ?_⟩))))
    rw [cm]
    exact dc _ hp
  · rw [tr_on2] at hp
    refine br_f (by decide) (br_f (by decide) (br_f (by decide) (br_f (by decide) (br_t (by decide) (⟨ia, ?_⟩)))))
    rw [ca]
    exact dc _ hp
  · rw [tr_on3] at hp
    exact br_f (by decide) (br_f (by decide) (br_f (by decide) (br_f (by decide) (br_f (by decide) (br_t (by decide) (yw_above T (by omega) hm ⟨ys_bn _, hp⟩))))))
  · rw [tr_on4] at hp
    exact br_f (by decide) (br_f (by decide) (br_f (by decide) (br_f (by decide) (br_f (by decide) (br_f (by decide) (br_t (by decide) (yw_above T (by omega) ha ⟨ys_bn _, hp⟩)))))))
  · rw [tr_on5] at hp
    refine br_f (by decide) (br_f (by decide) (br_f (by decide) (br_f (by decide) (br_f (by decide) (br_f (by decide) (br_f (by decide) (br_t (by decide) (⟨im, ia, ?_⟩))))))))
    rw [cm, ca]
    by_cases z : b_parent m = b_parent a
    · rw [decide_eq_true z, Bool.true_and] at hp
      refine br_t z (pk_le m a (fun q => ?_) (fun q => ?_))
      · rw [decide_eq_false (by omega)] at hp; exact hp
      · rw [decide_eq_true q] at hp; exact hp
    · rw [decide_eq_false z, Bool.false_and] at hp
      exact br_f z hp
  · rw [tr_on6] at hp
    refine br_f (by decide) (br_f (by decide) (br_f (by decide) (br_f (by decide) (br_f (by decide) (br_f (by decide) (br_f (by decide) (br_f (by decide) (br_t (by decide) (⟨im, ia, ?_⟩)))))))))
    rw [cm, ca]
    by_cases z : b_parent m = b_parent a
    · rw [decide_eq_true z, Bool.true_and] at hp
      refine br_t z (pk_le a m (fun q => ?_) (fun q => ?_))
      · rw [decide_eq_false (by omega)] at hp; exact hp
      · rw [decide_eq_true q] at hp; exact hp
    · rw [decide_eq_false z, Bool.false_and] at hp
      exact br_f z hp
  · rw [tr_on7] at hp
    refine br_f (by decide) (br_f (by decide) (br_f (by decide) (br_f (by decide) (br_f (by decide) (br_f (by decide) (br_f (by decide) (br_f (by decide) (br_f (by decide) (br_t (by decide) (?_))))))))))
    refine pk_le m a (fun q => ?_) (fun q => yw_above T (by omega) hm ?_)
    · rw [decide_eq_false (by omega), Bool.false_and] at hp; exact hp
    · rw [decide_eq_true q, Bool.true_and] at hp
      exact nt _ hp
  · rw [tr_on8] at hp
    refine br_f (by decide) (br_t (by decide) ?_)
    refine pk_le a m (fun q => ?_) (fun q => yw_above T (by omega) ha ?_)
    · rw [decide_eq_false (by omega), Bool.false_and] at hp; exact hp
    · rw [decide_eq_true q, Bool.true_and] at hp
      exact nt _ hp
theorem yw_onStep {post : Int32 → Prop} {n at' v a m : Nat} (T : tr_T b_parent n) (hat : at' < 210) (hw : b_with at' = nI v) (hv : v < 72) (ha : a < n) (hm : m < n) (hp : post (ys_b (tr_s b_parent b_name v a m))) : wpY_onStep post (g_nodes, g_inner, g_rules, g_place, g_listed, g_depth, g_row, g_pc, g_node, g_position, g_size, g_fault, g_put, g_steps, b_name, b_parent, b_value, b_kind, b_with, b_count, b_bodyAt, b_priority, b_given, b_there, b_wanted, b_waiting, b_within, b_list, b_left, b_reached, b_sizes, b_each, b_backRow, b_backPc, b_backNode, b_backPosition, b_backSize, b_output) (nI at') (nI a) (nI m) := by
  have hn := T.1
  have e7 : nI v &&& 7 = nI (v % 8) := pk_andN (by omega) 3 (by decide)
  have e3 : nI v >>> ((3 : Int32) &&& 31) = nI (v / 8) := pk_shrN (by omega) _ 3 (by decide)
  have w29 : (v % 8 = 6 ∨ b_name m = nI (v % 8)) → wY_onStep_29 post (nI at') (nI a) (nI m) g_nodes g_inner g_rules g_place g_listed g_depth g_row g_pc g_node g_position g_size g_fault g_put g_steps b_name b_parent b_value b_kind b_with b_count b_bodyAt b_priority b_given b_there b_wanted b_waiting b_within b_list b_left b_reached b_sizes b_each b_backRow b_backPc b_backNode b_backPosition b_backSize b_output := fun h => by
    refine ⟨vp_in_nI hat (by omega), ?_⟩
    rw [nI_clamp (by omega), hw, e3]
    refine yw_on T (by omega) ha hm ?_
    have e : (decide (v % 8 = 6) || decide (b_name m = nI (v % 8))) = true := by
      rw [Bool.or_eq_true, decide_eq_true_eq, decide_eq_true_eq]; exact h
    rw [tr_s, e, Bool.true_and] at hp
    exact ys_b0 (fun z => by rw [z] at hp; exact hp) (fun z => by rw [z] at hp; exact hp)
  refine ⟨vp_in_nI hat (by omega), nm_r (e' := nI (v % 8)) (by rw [nI_clamp (by omega), hw, e7]) ?_⟩
  refine pk_eq (v % 8) 6 (fun z => w29 (Or.inl z)) (fun z => ⟨vp_in_nI (by omega) (by omega), ?_⟩)
  rw [nI_clamp (by omega)]
  by_cases y : b_name m = nI (v % 8)
  · exact br_t y (w29 (Or.inr y))
  · rw [tr_s, decide_eq_false z, decide_eq_false y] at hp
    exact br_f y hp
theorem yw_told_l {post : Int32 → Prop} {x : Int32} {t n : Nat} (hn : n ≤ 24) (ht : t < 100) : ∀ k f acc, k ≤ n → k < f → post (me_t b_value t x k acc) → wY_told_10 post (nI t) x g_nodes g_inner g_rules g_place g_listed g_depth g_row g_pc g_node g_position g_size g_fault g_put g_steps b_name b_parent b_value b_kind b_with b_count b_bodyAt b_priority b_given b_there b_wanted b_waiting b_within b_list b_left b_reached b_sizes b_each b_backRow b_backPc b_backNode b_backPosition b_backSize b_output f acc (nI k - 1) := by
  intro k
  induction k with
  | zero =>
    intro f acc _ hf hp
    obtain ⟨f, rfl⟩ : ∃ x, f = x + 1 := ⟨f - 1, by omega⟩
    exact br_t (by decide) hp
  | succ k ih =>
    intro f acc hk hf hp
    obtain ⟨f, rfl⟩ : ∃ x, f = x + 1 := ⟨f - 1, by omega⟩
    rw [nI_pred]
    rw [me_t] at hp
    refine br_f (nI_pos (by omega)) ?_
    cases hb : bt x k
    · rw [hb, if_neg (by decide)] at hp
      exact br_t (ms_f (by omega) hb) (nm_r (xw_m1 k) (ih f acc (by omega) (by omega) hp))
    · rw [hb, if_pos rfl] at hp
      refine br_f (ms_t (by omega) hb) (pk_eq t 4 (fun z => ?_) (fun z => pk_eq t 5 (fun y => ⟨vp_in_nI (by omega) (by omega), ?_⟩) (fun y => ⟨vp_in_nI (by omega) (by omega), ?_⟩)))
      · rw [if_pos z] at hp
        exact nm_e (nm_r (xw_m1 k) (ih f _ (by omega) (by omega) hp))
      · rw [if_neg z, if_pos y] at hp
        exact nm_r (e' := acc + b_value k) (by rw [nI_clamp (by omega)]) (nm_r (xw_m1 k) (ih f _ (by omega) (by omega) hp))
      · rw [if_neg z, if_neg y] at hp
        exact nm_r (e' := b_value k) (by rw [nI_clamp (by omega)]) (nm_r (xw_m1 k) (ih f _ (by omega) (by omega) hp))
theorem yw_told {post : Int32 → Prop} {x : Int32} {t n : Nat} (hn : n ≤ 24) (ht : t < 100) (hp : post (nu_m b_value n t x)) : wpY_told post (nI n, g_inner, g_rules, g_place, g_listed, g_depth, g_row, g_pc, g_node, g_position, g_size, g_fault, g_put, g_steps, b_name, b_parent, b_value, b_kind, b_with, b_count, b_bodyAt, b_priority, b_given, b_there, b_wanted, b_waiting, b_within, b_list, b_left, b_reached, b_sizes, b_each, b_backRow, b_backPc, b_backNode, b_backPosition, b_backSize, b_output) (nI t) x :=
  nm_e ⟨n + 1, yw_told_l hn ht n (n + 1) 0 (Nat.le_refl _) (by omega) (by rw [me_m]; exact hp)⟩
/-- the tokens of a slot that begins at y -/
def ys_k (b_kind b_with : Nat → Int32) (y : Nat) (K : Nat → Nat) (O : Nat → Int32) (len : Nat) : Prop := ∀ x, x < len → b_kind (y + x) = nI (K x) ∧ b_with (y + x) = O x
theorem yw_knk {K : Nat → Nat} {len c k : Nat} (W : gm_W K len) (hk : k < 2 ^ 31) : nI (K c) = nI k ↔ K c = k := nI_eq (by have := gm_k26 W c; omega) hk
theorem yw_pe40 {post : Int32 → Prop} {J : Int32 → Prop} {x2 : Int32} {K : Nat → Nat} {O : Nat → Int32} {len y e : Nat} (W : gm_W K len) (hy : y + 30 ≤ 210) (hk : ys_k b_kind b_with y K O len) (he : e < len) (k17 : K e = 17) (hJ : J (nI (y + (e + 1)))) :
    ∀ d j f, j + d = e → d < f → (∀ x, j ≤ x → x < e → K x ≠ 17) → wY_pathEnd_40 post J x2 g_nodes g_inner g_rules g_place g_listed g_depth g_row g_pc g_node g_position g_size g_fault g_put g_steps b_name b_parent b_value b_kind b_with b_count b_bodyAt b_priority b_given b_there b_wanted b_waiting b_within b_list b_left b_reached b_sizes b_each b_backRow b_backPc b_backNode b_backPosition b_backSize b_output f (nI (y + j)) := by
  have hl := W.1
  intro d
  induction d with
  | zero =>
    intro j f hj hf _
    obtain ⟨f, rfl⟩ : ∃ x, f = x + 1 := ⟨f - 1, by omega⟩
    have e' : j = e := by omega
    subst e'
    refine ⟨vp_in_nI (by omega) (by omega), ?_⟩
    rw [nI_clamp (by omega), (hk j he).1, k17]
    exact br_t (by decide) (nm_r (e' := nI (y + (j + 1))) (by rw [nI_1, Nat.add_assoc]) hJ)
  | succ d ih =>
    intro j f hj hf hx
    obtain ⟨f, rfl⟩ : ∃ x, f = x + 1 := ⟨f - 1, by omega⟩
    refine ⟨vp_in_nI (by omega) (by omega), ?_⟩
    rw [nI_clamp (by omega), (hk j (by omega)).1]
    exact br_f (fun z => hx j (Nat.le_refl _) (by omega) ((yw_knk W (k := 17) (by omega)).mp z)) (nm_r (e' := nI (y + (j + 1))) (by rw [nI_1, Nat.add_assoc]) (ih (j + 1) f (by omega) (by omega) fun x x1 x2 => hx x (by omega) x2))
theorem yw_ps20 {post : Int32 → Prop} {J : Int32 → Prop} {x2 : Int32} {K : Nat → Nat} {O : Nat → Int32} {len y e : Nat} (W : gm_W K len) (hy : y + 30 ≤ 210) (hk : ys_k b_kind b_with y K O len) (he : e < len) (k17 : K e = 17) (hJ : J (nI (y + (e + 1)))) :
    ∀ d j f, j + d = e → d < f → (∀ x, j ≤ x → x < e → K x ≠ 17) → wY_pathStep_20 post J x2 g_nodes g_inner g_rules g_place g_listed g_depth g_row g_pc g_node g_position g_size g_fault g_put g_steps b_name b_parent b_value b_kind b_with b_count b_bodyAt b_priority b_given b_there b_wanted b_waiting b_within b_list b_left b_reached b_sizes b_each b_backRow b_backPc b_backNode b_backPosition b_backSize b_output f (nI (y + j)) := by
  have hl := W.1
  intro d
  induction d with
  | zero =>
    intro j f hj hf _
    obtain ⟨f, rfl⟩ : ∃ x, f = x + 1 := ⟨f - 1, by omega⟩
    have e' : j = e := by omega
    subst e'
    refine ⟨vp_in_nI (by omega) (by omega), ?_⟩
    rw [nI_clamp (by omega), (hk j he).1, k17]
    exact br_t (by decide) (nm_r (e' := nI (y + (j + 1))) (by rw [nI_1, Nat.add_assoc]) hJ)
  | succ d ih =>
    intro j f hj hf hx
    obtain ⟨f, rfl⟩ : ∃ x, f = x + 1 := ⟨f - 1, by omega⟩
    refine ⟨vp_in_nI (by omega) (by omega), ?_⟩
    rw [nI_clamp (by omega), (hk j (by omega)).1]
    exact br_f (fun z => hx j (Nat.le_refl _) (by omega) ((yw_knk W (k := 17) (by omega)).mp z)) (nm_r (e' := nI (y + (j + 1))) (by rw [nI_1, Nat.add_assoc]) (ih (j + 1) f (by omega) (by omega) fun x x1 x2 => hx x (by omega) x2))
theorem gm_no17 {K : Nat → Nat} {len j : Nat} (W : gm_W K len) (hj : j < len) (k : K j = 16) : gm_e K j - 1 < len ∧ K (gm_e K j - 1) = 17 ∧ j < gm_e K j - 1 ∧ ∀ x, j ≤ x → x < gm_e K j - 1 → K x ≠ 17 := by
  obtain ⟨o1, o2, o3, o4, o5⟩ := (W.2.2 j hj).2.2.2.2.2.2.2.2.1 k
  have b := (W.2.2 j hj).2.1
  rw [o4, Nat.add_sub_cancel]
  refine ⟨by omega, o3, by omega, fun x x1 x2 => ?_⟩
  rcases Nat.eq_or_lt_of_le x1 with e | e
  · rw [← e, k]; omega
  · have := o5 x e x2; omega
theorem ch_pr_ge {K : Nat → Nat} {len i h : Nat} (W : gm_W K len) (p : ch_pr K len i h) : i ≤ h := by
  obtain ⟨q, C, a, b⟩ := p
  have g := (nu_cd_ge C).1
  by_cases k : K q = 15
  · have := gm_en_ge K 64 0 q
    rw [a k]
    exact Nat.le_trans g this
  · rw [b k]; exact g
theorem ch_pr_s15 {K : Nat → Nat} {len j h : Nat} (W : gm_W K len) (hj : j < len) (k : K j = 15) (p : ch_pr K len j h) : ch_pr K len (j + 1) h := by
  have e := ch_pr_15 k p
  obtain ⟨q, C, h1, h2, h3, h4, h5, h6, h7⟩ := (W.2.2 j hj).2.2.2.2.2.2.2.1 k
  exact ⟨q, C, fun z => by rw [e]; exact (h4 z).1, fun z => by rw [e]; exact h5 z⟩
theorem ch_pr_s16 {K : Nat → Nat} {len j h : Nat} (k : K j = 16) (p : ch_pr K len j h) : ch_pr K len (gm_e K j) h := by
  obtain ⟨q, C, a, b⟩ := p
  have g := (nu_cd_ge C).1
  rcases Nat.eq_or_lt_of_le g with e | e
  · subst e
    exact absurd k (nu_cd_ge C).2
  · obtain ⟨f, hf⟩ : ∃ f, q - j = f + 1 := ⟨q - j - 1, by omega⟩
    rw [hf] at C
    rcases C with C | ⟨c1, c2, c3, c4, C⟩
    · omega
    · refine ⟨q, ?_, a, b⟩
      have g2 := (nu_cd_ge C).1
      exact nu_cdn C
theorem yw_pathEnd_l {post : Int32 → Prop} {K : Nat → Nat} {O : Nat → Int32} {len y en h : Nat} (W : gm_W K len) (hy : y + 30 ≤ 210) (hk : ys_k b_kind b_with y K O len) (hen : en ≤ len) (hh : h ≤ en) (hp : post (nI (y + h))) :
    ∀ d j f, h - j ≤ d → d < f → ch_pr K len j h → wY_pathEnd_2 post (nI (y + en)) g_nodes g_inner g_rules g_place g_listed g_depth g_row g_pc g_node g_position g_size g_fault g_put g_steps b_name b_parent b_value b_kind b_with b_count b_bodyAt b_priority b_given b_there b_wanted b_waiting b_within b_list b_left b_reached b_sizes b_each b_backRow b_backPc b_backNode b_backPosition b_backSize b_output f (nI (y + j)) := by
  have hl := W.1
  intro d
  induction d with
  | zero =>
    intro j f hj hf p
    have g := ch_pr_ge W p
    obtain ⟨f, rfl⟩ : ∃ x, f = x + 1 := ⟨f - 1, by omega⟩
    have e : j = h := by omega
    subst e
    refine br_c (fun _ => hp) (fun z => ?_)
    have jl : j < len := by
      rcases Nat.lt_or_ge j len with q | q
      · exact q
      · exact absurd (nI_le (show y + en ≤ y + j by omega) (by omega)) z
    have n15 : K j ≠ 15 := fun q => by
      have := ch_pr_15 q p
      have := (W.2.2 j jl).1
      omega
    have n16 : K j ≠ 16 := fun q => by
      have := ch_pr_ge W (ch_pr_s16 q p)
      have := (W.2.2 j jl).1
      omega
    refine ⟨vp_in_nI (by omega) (by omega), ?_⟩
    rw [nI_clamp (by omega), (hk j jl).1]
    exact br_f (fun q => n15 ((yw_knk W (k := 15) (by omega)).mp q)) ⟨vp_in_nI (by omega) (by omega), br_f (fun q => n16 ((yw_knk W (k := 16) (by omega)).mp q)) hp⟩
  | succ d ih =>
    intro j f hj hf p
    have g := ch_pr_ge W p
    rcases Nat.eq_or_lt_of_le g with e | lt
    · exact ih j f (by omega) (by omega) p
    obtain ⟨f, rfl⟩ : ∃ x, f = x + 1 := ⟨f - 1, by omega⟩
    have jl : j < len := by omega
    refine br_f (nI_ge (by omega) (by omega)) ⟨vp_in_nI (by omega) (by omega), ?_⟩
    rw [nI_clamp (by omega), (hk j jl).1]
    by_cases k15 : K j = 15
    · rw [k15]
      refine br_t (by decide) ⟨vp_in_nI (by omega) (by omega), ?_⟩
      rw [nI_clamp (by omega), (hk j jl).1, k15]
      exact br_f (by decide) (nm_r (e' := nI (y + (j + 1))) (by rw [nI_1, Nat.add_assoc]) (ih (j + 1) f (by omega) (by omega) (ch_pr_s15 W jl k15 p)))
    · by_cases k16 : K j = 16
      · obtain ⟨m1, m2, m3, m4⟩ := gm_no17 W jl k16
        rw [k16]
        refine br_f (by decide) ⟨vp_in_nI (by omega) (by omega), br_t (by decide) ⟨vp_in_nI (by omega) (by omega), ?_⟩⟩
        rw [nI_clamp (by omega), (hk j jl).1, k16]
        refine br_t (by decide) ⟨gm_e K j - j + 1, yw_pe40 W hy hk m1 m2 ?_ (gm_e K j - 1 - j) j _ (by omega) (by omega) m4⟩
        rw [show gm_e K j - 1 + 1 = gm_e K j by omega]
        exact ih (gm_e K j) f (by omega) (by omega) (ch_pr_s16 k16 p)
      · have := ch_pr_at k15 k16 p
        omega
theorem yw_pathEnd {post : Int32 → Prop} {K : Nat → Nat} {O : Nat → Int32} {len y en i : Nat} (W : gm_W K len) (hy : y + 30 ≤ 210) (hk : ys_k b_kind b_with y K O len) (hen : en ≤ len) (k15 : K i = 15) (hh : gm_e K i ≤ en) (hp : post (nI (y + gm_e K i))) : wpY_pathEnd post (g_nodes, g_inner, g_rules, g_place, g_listed, g_depth, g_row, g_pc, g_node, g_position, g_size, g_fault, g_put, g_steps, b_name, b_parent, b_value, b_kind, b_with, b_count, b_bodyAt, b_priority, b_given, b_there, b_wanted, b_waiting, b_within, b_list, b_left, b_reached, b_sizes, b_each, b_backRow, b_backPc, b_backNode, b_backPosition, b_backSize, b_output) (nI (y + i)) (nI (y + en)) :=
  ⟨gm_e K i - i + 1, yw_pathEnd_l W hy hk hen hh hp (gm_e K i - i) i _ (Nat.le_refl _) (by omega) ⟨i, by rw [Nat.sub_self]; exact ⟨rfl, by omega⟩, fun _ => rfl, fun z => absurd k15 z⟩⟩
theorem yw_pathStep_l {post : Int32 → Prop} {K : Nat → Nat} {O : Nat → Int32} {len y en q : Nat} (W : gm_W K len) (hy : y + 30 ≤ 210) (hk : ys_k b_kind b_with y K O len) (hen : en ≤ len) (hq : q ≤ en) (hs : K q ≠ 15 → q = en) (hp : post (nI (y + q))) :
    ∀ d j f g, q - j ≤ d → d < f → gm_cd K len g j q → wY_pathStep_4 post (nI (y + en)) g_nodes g_inner g_rules g_place g_listed g_depth g_row g_pc g_node g_position g_size g_fault g_put g_steps b_name b_parent b_value b_kind b_with b_count b_bodyAt b_priority b_given b_there b_wanted b_waiting b_within b_list b_left b_reached b_sizes b_each b_backRow b_backPc b_backNode b_backPosition b_backSize b_output f (nI (y + j)) := by
  have hl := W.1
  have stop : ∀ f, wY_pathStep_4 post (nI (y + en)) g_nodes g_inner g_rules g_place g_listed g_depth g_row g_pc g_node g_position g_size g_fault g_put g_steps b_name b_parent b_value b_kind b_with b_count b_bodyAt b_priority b_given b_there b_wanted b_waiting b_within b_list b_left b_reached b_sizes b_each b_backRow b_backPc b_backNode b_backPosition b_backSize b_output (f + 1) (nI (y + q)) := by
    intro f
    refine br_c (fun _ => hp) (fun z => ?_)
    have ql : q < len := by
      rcases Nat.lt_or_ge q len with v | v
      · exact v
      · exact absurd (nI_le (show y + en ≤ y + q by omega) (by omega)) z
    have k15 : K q = 15 := Classical.byContradiction fun v => z (by rw [hs v]; exact nI_le (Nat.le_refl _) (by omega))
    refine ⟨vp_in_nI (by omega) (by omega), ?_⟩
    rw [nI_clamp (by omega), (hk q ql).1, k15]
    exact br_t (by decide) hp
  intro d
  induction d with
  | zero =>
    intro j f g hj hf C
    have ge := (nu_cd_ge C).1
    obtain ⟨f, rfl⟩ : ∃ x, f = x + 1 := ⟨f - 1, by omega⟩
    have e : j = q := by omega
    rw [e]; exact stop f
  | succ d ih =>
    intro j f g hj hf C
    have ge := (nu_cd_ge C).1
    obtain ⟨f, rfl⟩ : ∃ x, f = x + 1 := ⟨f - 1, by omega⟩
    rcases Nat.eq_or_lt_of_le ge with e | lt
    · rw [e]; exact stop f
    · cases g with
      | zero => exact absurd C.1 (by omega)
      | succ g =>
        rcases C with C | ⟨k16, c2, c3, c4, C⟩
        · exact absurd C.1 (by omega)
        · have jl : j < len := by omega
          obtain ⟨m1, m2, m3, m4⟩ := gm_no17 W jl k16
          refine br_f (nI_ge (by omega) (by omega)) ⟨vp_in_nI (by omega) (by omega), ?_⟩
          rw [nI_clamp (by omega), (hk j jl).1, k16]
          refine br_f (by decide) ⟨gm_e K j - j + 1, yw_ps20 W hy hk m1 m2 ?_ (gm_e K j - 1 - j) j _ (by omega) (by omega) m4⟩
          rw [show gm_e K j - 1 + 1 = gm_e K j by omega]
          exact ih (gm_e K j) f g (by omega) (by omega) C
theorem yw_pathStep {post : Int32 → Prop} {K : Nat → Nat} {O : Nat → Int32} {len y i q : Nat} (W : gm_W K len) (hy : y + 30 ≤ 210) (hk : ys_k b_kind b_with y K O len) (hi : i < len) (hq : q ≤ gm_e K i) (C : gm_cd K len (q - (i + 1)) (i + 1) q) (hs : K q ≠ 15 → gm_e K i = q) (hp : post (nI (y + q))) : wpY_pathStep post (g_nodes, g_inner, g_rules, g_place, g_listed, g_depth, g_row, g_pc, g_node, g_position, g_size, g_fault, g_put, g_steps, b_name, b_parent, b_value, b_kind, b_with, b_count, b_bodyAt, b_priority, b_given, b_there, b_wanted, b_waiting, b_within, b_list, b_left, b_reached, b_sizes, b_each, b_backRow, b_backPc, b_backNode, b_backPosition, b_backSize, b_output) (nI (y + i)) (nI (y + gm_e K i)) :=
  nm_r (e' := nI (y + (i + 1))) (by rw [nI_1, Nat.add_assoc]) ⟨q + 1, yw_pathStep_l W hy hk (W.2.2 i hi).2.1 hq (fun z => (hs z).symm) hp q (i + 1) _ _ (by omega) (by omega) C⟩
end
section
/-! the reference: paths without conditions, numbers in a condition -/
variable {g_nodes g_inner g_rules g_place g_listed g_depth g_row g_pc g_node g_position g_size g_fault g_put g_steps : Int32} {b_name b_parent b_value b_kind b_with b_count b_bodyAt b_priority b_given b_there b_wanted b_waiting b_within b_list b_left b_reached b_sizes b_each b_backRow b_backPc b_backNode b_backPosition b_backSize b_output : Nat → Int32}
theorem yw_calc {post : Int32 → Prop} {k : Nat} {x y : Int32} (k7 : 7 ≤ k) (k13 : k ≤ 13) (hp : post (nu_c k x y)) : wpY_calculate post (g_nodes, g_inner, g_rules, g_place, g_listed, g_depth, g_row, g_pc, g_node, g_position, g_size, g_fault, g_put, g_steps, b_name, b_parent, b_value, b_kind, b_with, b_count, b_bodyAt, b_priority, b_given, b_there, b_wanted, b_waiting, b_within, b_list, b_left, b_reached, b_sizes, b_each, b_backRow, b_backPc, b_backNode, b_backPosition, b_backSize, b_output) (nI k) x y := by
  rcases (show k = 7 ∨ k = 8 ∨ k = 9 ∨ k = 10 ∨ k = 11 ∨ k = 12 ∨ k = 13 by omega) with rfl | rfl | rfl | rfl | rfl | rfl | rfl
  · exact br_f (by decide) (br_f (by decide) (br_t (by decide) (nc_7 hp)))
  · exact br_f (by decide) (br_f (by decide) (br_f (by decide) (br_t (by decide) (nc_8 hp))))
  · exact br_f (by decide) (br_f (by decide) (br_f (by decide) (br_f (by decide) (br_t (by decide) (nc_9 hp)))))
  · exact br_f (by decide) (br_f (by decide) (br_f (by decide) (br_f (by decide) (br_f (by decide) (br_t (by decide) (nc_10 hp))))))
  · exact br_f (by decide) (br_f (by decide) (br_f (by decide) (br_f (by decide) (br_f (by decide) (br_f (by decide) (br_t (by decide) (nc_11 hp)))))))
  · exact br_f (by decide) (br_f (by decide) (br_f (by decide) (br_f (by decide) (br_f (by decide) (br_f (by decide) (br_f (by decide) (br_t (by decide) (nc_12 hp))))))))
  · exact br_f (by decide) (br_t (by decide) (nc_13 hp))
/-- what is selected from the nodes of S by the path from j on is ans -/
def pa_I (n : Nat) (tb : Nat → Nat → Int32) (S : Int32) (j : Nat) (ans : Int32) : Prop := ∀ i, i < 32 → (bt ans i = true ↔ ∃ a, a < n ∧ bt S a = true ∧ bt (tb j a) i = true)
theorem pa_0 {n : Nat} {tb : Nat → Nat → Int32} {j a : Nat} (hn : n ≤ 24) (ha : a < n) : pa_I n tb ((1 : Int32) <<< (nI a &&& 31)) j (tb j a) := fun i hi => by
  constructor
  · intro z
    refine ⟨a, ha, ?_, z⟩
    rw [ms_1 a (by omega) a (by omega), decide_eq_true rfl]
  · rintro ⟨b, hb, h1, h2⟩
    rw [ms_1 a (by omega) b (by omega), decide_eq_true_eq] at h1
    rw [h1] at h2; exact h2
theorem pa_step {K : Nat → Nat} {O V P N : Nat → Int32} {len n j q : Nat} {tb : Nat → Nat → Int32} {S S' ans : Int32} (hn : n ≤ 24) (TE : nu_TE K O V P N len n tb j) (k15 : K j = 15) (C : gm_cd K len (q - (j + 1)) (j + 1) q) (I : pa_I n tb S j ans) (hS : ∀ i, i < 32 → (bt S' i = true ↔ ∃ a, a < n ∧ bt S a = true ∧ i ∈ nu_L K O V P N n tb j a)) :
    (K q = 15 → pa_I n tb S' q ans) ∧ (K q ≠ 15 → S' = ans) := by
  refine ⟨fun k i hi => ?_, fun k => b_ext fun i hi => xr_bool ?_⟩
  · rw [I i hi]
    constructor
    · rintro ⟨a, ha, h1, h2⟩
      rcases ((TE a ha).1 k15 q C i hi).mp h2 with ⟨_, m, hm, hb⟩ | ⟨z, _⟩
      · have := nu_Lm hm
        exact ⟨m, this, (hS m (by omega)).mpr ⟨a, ha, h1, hm⟩, hb⟩
      · exact absurd k z
    · rintro ⟨m, hm, h1, h2⟩
      obtain ⟨a, ha, h3, h4⟩ := (hS m (by omega)).mp h1
      exact ⟨a, ha, h3, ((TE a ha).1 k15 q C i hi).mpr (Or.inl ⟨k, m, h4, h2⟩)⟩
  · rw [hS i hi, I i hi]
    constructor
    · rintro ⟨a, ha, h1, h2⟩
      exact ⟨a, ha, h1, ((TE a ha).1 k15 q C i hi).mpr (Or.inr ⟨k, h2⟩)⟩
    · rintro ⟨a, ha, h1, h2⟩
      rcases ((TE a ha).1 k15 q C i hi).mp h2 with ⟨z, _⟩ | ⟨_, z⟩
      · exact absurd z k
      · exact ⟨a, ha, h1, z⟩
theorem pa_L0 {K : Nat → Nat} {O V P N : Nat → Int32} {n j v a m : Nat} {tb : Nat → Nat → Int32} (h16 : K (j + 1) ≠ 16) (ho : O j = nI v) (hv : v < 72) : m ∈ nu_L K O V P N n tb j a ↔ m < n ∧ tr_s P N v a m = true := by
  have oo : nu_o O j = v := by show (O j).toNatClampNeg = v; rw [ho]; exact nI_clamp (by omega)
  unfold nu_L
  rw [oo, show (32 : Nat) = 31 + 1 from rfl, nu_cd, if_neg h16, List.mem_filter, ls_Tm]
theorem yw_pp57 {post : Int32 → Prop} {J8 J32 : Int32 → Int32 → Prop} {x2 x4 : Int32} {n at' v a : Nat} (T : tr_T b_parent n) (hat : at' < 210) (hw : b_with at' = nI v) (hv : v < 72) (ha : a < n) {r0 : Int32}
    (hJ : ∀ r, (∀ i, i < 32 → (bt r i = true ↔ bt r0 i = true ∨ (i < n ∧ tr_s b_parent b_name v a i = true))) → J32 r (nI (a + 1))) :
    ∀ d m f r, m + d = n → d < f → (∀ i, i < 32 → (bt r i = true ↔ bt r0 i = true ∨ (i < m ∧ tr_s b_parent b_name v a i = true))) → wY_plainPath_57 post J8 J32 x2 x4 (nI at') (nI a) (nI n) g_inner g_rules g_place g_listed g_depth g_row g_pc g_node g_position g_size g_fault g_put g_steps b_name b_parent b_value b_kind b_with b_count b_bodyAt b_priority b_given b_there b_wanted b_waiting b_within b_list b_left b_reached b_sizes b_each b_backRow b_backPc b_backNode b_backPosition b_backSize b_output f r (nI m) := by
  have hn := T.1
  intro d
  induction d with
  | zero =>
    intro m f r hm hf hr
    obtain ⟨f, rfl⟩ : ∃ x, f = x + 1 := ⟨f - 1, by omega⟩
    have e : m = n := by omega
    subst e
    exact br_t (nI_le (Nat.le_refl _) (by omega)) (nm_r (nI_1 a) (hJ r hr))
  | succ d ih =>
    intro m f r hm hf hr
    obtain ⟨f, rfl⟩ : ∃ x, f = x + 1 := ⟨f - 1, by omega⟩
    refine br_f (nI_ge (by omega) (by omega)) (yw_onStep T hat hw hv ha (by omega) (ys_b0 (fun z => nm_r (nI_1 m) (ih (m + 1) f r (by omega) (by omega) fun i hi => ?_)) (fun z => nm_e (nm_r (nI_1 m) (ih (m + 1) f _ (by omega) (by omega) fun i hi => ?_)))))
    · rw [hr i hi]
      refine ⟨fun y => y.elim Or.inl (fun y => Or.inr ⟨by omega, y.2⟩), fun y => y.elim Or.inl (fun y => Or.inr ⟨?_, y.2⟩)⟩
      rcases Nat.lt_or_ge i m with q | q
      · exact q
      · have : i = m := by omega
        rw [this, z] at y
        exact nomatch y.2
    · rw [ms_set r (by omega) hi, Bool.or_eq_true, decide_eq_true_eq, hr i hi]
      constructor
      · rintro ((y | y) | y)
        · exact Or.inl y
        · exact Or.inr ⟨by omega, y.2⟩
        · rw [y]; exact Or.inr ⟨by omega, z⟩
      · rintro (y | ⟨y1, y2⟩)
        · exact Or.inl (Or.inl y)
        · rcases Nat.lt_or_ge i m with q | q
          · exact Or.inl (Or.inr ⟨q, y2⟩)
          · exact Or.inr (by omega)
theorem yw_pp32 {post : Int32 → Prop} {J8 : Int32 → Int32 → Prop} {x2 S : Int32} {n at' v : Nat} (T : tr_T b_parent n) (hat : at' < 210) (hw : b_with at' = nI v) (hv : v < 72)
    (hJ : ∀ r, (∀ i, i < 32 → (bt r i = true ↔ ∃ a, a < n ∧ bt S a = true ∧ i < n ∧ tr_s b_parent b_name v a i = true)) → J8 r (nI (at' + 1))) :
    ∀ d a f r, a + d = n → d < f → (∀ i, i < 32 → (bt r i = true ↔ ∃ b, b < a ∧ bt S b = true ∧ i < n ∧ tr_s b_parent b_name v b i = true)) → wY_plainPath_32 post J8 x2 S (nI at') (nI n) g_inner g_rules g_place g_listed g_depth g_row g_pc g_node g_position g_size g_fault g_put g_steps b_name b_parent b_value b_kind b_with b_count b_bodyAt b_priority b_given b_there b_wanted b_waiting b_within b_list b_left b_reached b_sizes b_each b_backRow b_backPc b_backNode b_backPosition b_backSize b_output f r (nI a) := by
  have hn := T.1
  intro d
  induction d with
  | zero =>
    intro a f r ha hf hr
    obtain ⟨f, rfl⟩ : ∃ x, f = x + 1 := ⟨f - 1, by omega⟩
    have e : a = n := by omega
    subst e
    exact br_t (nI_le (Nat.le_refl _) (by omega)) (nm_r (nI_1 at') (hJ r hr))
  | succ d ih =>
    intro a f r ha hf hr
    obtain ⟨f, rfl⟩ : ∃ x, f = x + 1 := ⟨f - 1, by omega⟩
    refine br_f (nI_ge (by omega) (by omega)) ?_
    cases hb : bt S a
    · refine br_t (ms_f (by omega) hb) (nm_r (nI_1 a) (ih (a + 1) f r (by omega) (by omega) fun i hi => (hr i hi).trans ⟨fun ⟨b, b1, b2⟩ => ⟨b, by omega, b2⟩, fun ⟨b, b1, b2, b3⟩ => ⟨b, ?_, b2, b3⟩⟩))
      rcases Nat.lt_or_ge b a with q | q
      · exact q
      · have : b = a := by omega
        rw [this, hb] at b2
        exact nomatch b2
    · refine br_f (ms_t (by omega) hb) ⟨n + 1, yw_pp57 T hat hw hv (by omega) (r0 := r) (fun r' hr' => ih (a + 1) f r' (by omega) (by omega) fun i hi => ?_) n 0 (n + 1) r (by omega) (by omega) fun i hi => ⟨Or.inl, fun y => y.elim id (fun y => absurd y.1 (by omega))⟩⟩
      rw [hr' i hi, hr i hi]
      constructor
      · rintro (⟨b, b1, b2⟩ | ⟨y1, y2⟩)
        · exact ⟨b, by omega, b2⟩
        · exact ⟨a, by omega, hb, y1, y2⟩
      · rintro ⟨b, b1, b2, b3, b4⟩
        rcases Nat.lt_or_ge b a with q | q
        · exact Or.inl ⟨b, q, b2, b3, b4⟩
        · have : b = a := by omega
          rw [this] at b4
          exact Or.inr ⟨b3, b4⟩
theorem yw_plainPath_l {post : Int32 → Prop} {K : Nat → Nat} {O : Nat → Int32} {len y en n c0 : Nat} {tb : Nat → Nat → Int32} {ans : Int32} (W : gm_W K len) (hy : y + 30 ≤ 210) (hk : ys_k b_kind b_with y K O len) (T : tr_T b_parent n) (hen : en ≤ len) (hno : ∀ x, x ≤ en → c0 ≤ x → K x ≠ 16) (hov : ∀ x, x < len → K x = 15 → ∃ v, v < 72 ∧ O x = nI v)
    (TE : ∀ c, c < len → nu_TE K O b_value b_parent b_name len n tb c) (hp : post ans) :
    ∀ d j f S, en - j ≤ d → d < f → c0 ≤ j → j ≤ en → (K j = 15 → gm_e K j ≤ en ∧ pa_I n tb S j ans) → (K j ≠ 15 → S = ans) → wY_plainPath_8 post (nI (y + en)) (nI n) g_inner g_rules g_place g_listed g_depth g_row g_pc g_node g_position g_size g_fault g_put g_steps b_name b_parent b_value b_kind b_with b_count b_bodyAt b_priority b_given b_there b_wanted b_waiting b_within b_list b_left b_reached b_sizes b_each b_backRow b_backPc b_backNode b_backPosition b_backSize b_output f S (nI (y + j)) := by
  have hl := W.1
  have hn := T.1
  intro d
  induction d with
  | zero =>
    intro j f S hj hf h0 h1 i1 i2
    obtain ⟨f, rfl⟩ : ∃ x, f = x + 1 := ⟨f - 1, by omega⟩
    have e : j = en := by omega
    subst e
    have n15 : K j ≠ 15 := fun z => by
      have a := (i1 z).1
      rcases Nat.lt_or_ge j len with q | q
      · have := (W.2.2 j q).1; omega
      · have := W.2.1 j q; omega
    rw [i2 n15]
    exact br_t (nI_le (Nat.le_refl _) (by omega)) hp
  | succ d ih =>
    intro j f S hj hf h0 h1 i1 i2
    obtain ⟨f, rfl⟩ : ∃ x, f = x + 1 := ⟨f - 1, by omega⟩
    by_cases k15 : K j = 15
    · obtain ⟨g1, g2⟩ := i1 k15
      have jl : j < len := by
        rcases Nat.lt_or_ge j len with q | q
        · exact q
        · have := W.2.1 j q; omega
      have glt := (W.2.2 j jl).1
      obtain ⟨v, hv, ho⟩ := hov j jl k15
      refine br_f (nI_ge (by omega) (by omega)) ⟨vp_in_nI (by omega) (by omega), ?_⟩
      rw [nI_clamp (by omega), (hk j jl).1, k15]
      refine br_t (by decide) ⟨n + 1, yw_pp32 T (by omega) (by rw [(hk j jl).2]; exact ho) hv (fun r hr => ?_) n 0 (n + 1) 0 (by omega) (by omega) fun i hi => ⟨fun z => absurd z (by rw [b_0]; decide), fun ⟨b, b1, _⟩ => absurd b1 (by omega)⟩⟩
      obtain ⟨q, C, q1, q2, q3, q4, q5, q6, q7⟩ := (W.2.2 j jl).2.2.2.2.2.2.2.1 k15
      have h16 : K (j + 1) ≠ 16 := hno (j + 1) (by omega) (by omega)
      have eq : q = j + 1 := nu_cd_u C (show gm_cd K len 0 (j + 1) (j + 1) from ⟨rfl, h16⟩)
      subst eq
      have st := pa_step (S' := r) hn (TE j jl) k15 C g2 (fun i hi => by
        rw [hr i hi]
        constructor
        · rintro ⟨a, a1, a2, a3, a4⟩; exact ⟨a, a1, a2, (pa_L0 h16 ho hv).mpr ⟨a3, a4⟩⟩
        · rintro ⟨a, a1, a2, a3⟩
          have := (pa_L0 h16 ho hv).mp a3
          exact ⟨a, a1, a2, this.1, this.2⟩)
      rw [show y + j + 1 = y + (j + 1) by omega]
      exact ih (j + 1) f r (by omega) (by omega) (by omega) (by omega) (fun z => ⟨by rw [← (q4 z).1]; exact g1, st.1 z⟩) st.2
    · rw [i2 k15]
      refine br_c (fun _ => hp) (fun z => ?_)
      have jl : j < len := by
        rcases Nat.lt_or_ge j len with q | q
        · exact q
        · exact absurd (nI_le (show y + en ≤ y + j by omega) (by omega)) z
      refine ⟨vp_in_nI (by omega) (by omega), ?_⟩
      rw [nI_clamp (by omega), (hk j jl).1]
      exact br_f (fun q => k15 ((yw_knk W (k := 15) (by omega)).mp q)) hp
theorem yw_plainPath {post : Int32 → Prop} {K : Nat → Nat} {O : Nat → Int32} {len y en n i a : Nat} {tb : Nat → Nat → Int32} (W : gm_W K len) (hy : y + 30 ≤ 210) (hk : ys_k b_kind b_with y K O len) (T : tr_T b_parent n) (hen : en ≤ len) (hno : ∀ x, x ≤ en → i ≤ x → K x ≠ 16) (hov : ∀ x, x < len → K x = 15 → ∃ v, v < 72 ∧ O x = nI v)
    (TE : ∀ c, c < len → nu_TE K O b_value b_parent b_name len n tb c) (k15 : K i = 15) (hie : i ≤ en) (he : gm_e K i ≤ en) (ha : a < n) (hp : post (tb i a)) : wpY_plainPath post (nI n, g_inner, g_rules, g_place, g_listed, g_depth, g_row, g_pc, g_node, g_position, g_size, g_fault, g_put, g_steps, b_name, b_parent, b_value, b_kind, b_with, b_count, b_bodyAt, b_priority, b_given, b_there, b_wanted, b_waiting, b_within, b_list, b_left, b_reached, b_sizes, b_each, b_backRow, b_backPc, b_backNode, b_backPosition, b_backSize, b_output) (nI (y + i)) (nI (y + en)) (nI a) :=
  nm_e ⟨en - i + 1, yw_plainPath_l (c0 := i) W hy hk T hen hno hov TE hp (en - i) i _ _ (Nat.le_refl _) (by omega) (Nat.le_refl _) hie (fun _ => ⟨he, pa_0 T.1 ha⟩) (fun z => absurd k15 z)⟩
end
section
/-! the reference: a number in a condition -/
variable {g_nodes g_inner g_rules g_place g_listed g_depth g_row g_pc g_node g_position g_size g_fault g_put g_steps : Int32} {b_name b_parent b_value b_kind b_with b_count b_bodyAt b_priority b_given b_there b_wanted b_waiting b_within b_list b_left b_reached b_sizes b_each b_backRow b_backPc b_backNode b_backPosition b_backSize b_output : Nat → Int32}
theorem yw_in32 {t : Nat} (h : t < 32) : vp_in (nI t) 32 := vp_in_nI h (by omega)
theorem yw_inner_l {post : Int32 → SY → Prop} {K : Nat → Nat} {O : Nat → Int32} {len y c n nd : Nat} {tb : Nat → Nat → Int32} {ps sz : Int32} (W : gm_W K len) (hy : y + 30 ≤ 210) (hk : ys_k b_kind b_with y K O len) (T : tr_T b_parent n) (hov : ∀ x, x < len → K x = 15 → ∃ v, v < 72 ∧ O x = nI v)
    (TE : ∀ c, c < len → nu_TE K O b_value b_parent b_name len n tb c) (hc : c < len) (k14 : K c ≤ 14) (hnd : nd < n) (hno : ∀ x, c ≤ x → x < gm_e K c → K x ≤ 15) (h16 : K (gm_e K c) ≠ 16)
    (hp : ∀ w : Nat → Int32, post (nu_n K O b_value tb nd ps sz c) (nI n, g_inner, g_rules, g_place, g_listed, g_depth, g_row, g_pc, g_node, g_position, g_size, g_fault, g_put, g_steps, b_name, b_parent, b_value, b_kind, b_with, b_count, b_bodyAt, b_priority, b_given, b_there, b_wanted, b_waiting, w, b_list, b_left, b_reached, b_sizes, b_each, b_backRow, b_backPc, b_backNode, b_backPosition, b_backSize, b_output)) :
    ∀ d f t w, c + d ≤ gm_e K c → d < f → ch_C K len (gm_e K c) (fun x => nu_n K O b_value tb nd ps sz x) w t (c + d) → wY_innerNumber_8 post (nI (y + c)) (nI (y + gm_e K c)) (nI nd) ps sz (nI n) g_inner g_rules g_place g_listed g_depth g_row g_pc g_node g_position g_size g_fault g_put g_steps f (nI t) (nI (y + c + d) - 1) b_name b_parent b_value b_kind b_with b_count b_bodyAt b_priority b_given b_there b_wanted b_waiting w b_list b_left b_reached b_sizes b_each b_backRow b_backPc b_backNode b_backPosition b_backSize b_output := by
  have hl := W.1
  have hn := T.1
  have hel := (W.2.2 c hc).2.1
  have hlt := (W.2.2 c hc).1
  intro d
  induction d with
  | zero =>
    intro f t w _ hf h
    obtain ⟨f, rfl⟩ : ∃ x, f = x + 1 := ⟨f - 1, by omega⟩
    have z := (ch_end hlt k14 rfl h).2
    refine br_t (xw_m1lt (by omega)) ?_
    rw [z]
    exact hp w
  | succ d ih =>
    intro f t w hd hf h
    obtain ⟨f, rfl⟩ : ∃ x, f = x + 1 := ⟨f - 1, by omega⟩
    have ex : nI (y + c + (d + 1)) - 1 = nI (y + (c + d)) := by
      rw [show y + c + (d + 1) = (y + (c + d)) + 1 by omega, nI_pred]
    rw [ex]
    have hj : c + d < len := by omega
    have L := W.2.2 (c + d) hj
    have lam := (W.2.2 c hc).2.2.1 (c + d) (by omega) (by omega)
    have hjk := hno (c + d) (by omega) (by omega)
    have tl := ch_len W hel (by omega) h
    have nx : ∀ t' w', ch_C K len (gm_e K c) (fun x => nu_n K O b_value tb nd ps sz x) w' t' (c + d) → ∀ x7, x7 = nI (y + (c + d)) + (-1) → wY_innerNumber_8 post (nI (y + c)) (nI (y + gm_e K c)) (nI nd) ps sz (nI n) g_inner g_rules g_place g_listed g_depth g_row g_pc g_node g_position g_size g_fault g_put g_steps f (nI t') x7 b_name b_parent b_value b_kind b_with b_count b_bodyAt b_priority b_given b_there b_wanted b_waiting w' b_list b_left b_reached b_sizes b_each b_backRow b_backPc b_backNode b_backPosition b_backSize b_output := fun t' w' h' => nm_r (e' := nI (y + c + d) - 1) (by rw [xw_m1, Nat.add_assoc]) (ih f t' w' (by omega) (by omega) h')
    refine br_f (nI_nlt (by omega) (by omega)) ⟨vp_in_nI (by omega) (by omega), nm_r (e' := nI (K (c + d))) (by rw [nI_clamp (by omega)]; exact (hk (c + d) hj).1) ?_⟩
    have leaf : K (c + d) ≤ 3 → ∀ x, x = nu_n K O b_value tb nd ps sz (c + d) → ch_C K len (gm_e K c) (fun x => nu_n K O b_value tb nd ps sz x) (upd w t x) (t + 1) (c + d) := fun k3 x hx => by
      refine ch_push hx (by omega) (by omega) ?_
      rw [L.2.2.2.1 k3]
      exact h
    by_cases k15 : K (c + d) = 15
    · rw [k15]
      exact br_t (by decide) (nx t w (ch_step W hj k15 h))
    refine br_f (fun z => k15 ((yw_knk W (k := 15) (by omega)).mp z)) ?_
    by_cases k3 : K (c + d) ≤ 3
    · refine br_t (nI_le (b := 3) k3 (by omega)) (br_f (nI_ge (b := 4) (by omega) (by omega)) (nm_r (nI_1 t) ?_))
      have ct : (nI t).toNatClampNeg = t := nI_clamp (by omega)
      rcases (show K (c + d) = 0 ∨ K (c + d) = 1 ∨ K (c + d) = 2 ∨ K (c + d) = 3 by omega) with k | k | k | k
      · rw [k]
        exact br_t (by decide) ⟨vp_in_nI (by omega) (by omega), yw_in32 (by omega), nm_r (e' := upd w t (O (c + d))) (by rw [ct, nI_clamp (by omega), (hk (c + d) hj).2]) (nx _ _ (leaf k3 _ (nu_n0 k).symm))⟩
      · rw [k]
        exact br_f (by decide) (br_t (by decide) ⟨yw_in32 (by omega), nm_r (e' := upd w t ps) (by rw [ct]) (nx _ _ (leaf k3 _ (nu_n1 k).symm))⟩)
      · rw [k]
        exact br_f (by decide) (br_f (by decide) (br_t (by decide) ⟨yw_in32 (by omega), nm_r (e' := upd w t sz) (by rw [ct]) (nx _ _ (leaf k3 _ (nu_n2 k).symm))⟩))
      · rw [k]
        exact br_f (by decide) (br_f (by decide) (br_f (by decide) ⟨vp_in_nI (by omega) (by omega), yw_in32 (by omega), nm_r (e' := upd w t (b_value nd)) (by rw [ct, nI_clamp (by omega)]) (nx _ _ (leaf k3 _ (nu_n3 k).symm))⟩))
    refine br_f (nI_ge (b := K (c + d)) (a := 3) (by omega) (by omega)) ?_
    by_cases k6 : K (c + d) ≤ 6
    · obtain ⟨p1, p2, p3⟩ := L.2.2.2.2.1 ⟨by omega, k6⟩
      refine br_f (nI_ge (b := 7) (by omega) (by omega)) ?_
      rw [show nI (y + (c + d)) + 1 = nI (y + (c + d + 1)) by rw [nI_1, Nat.add_assoc]]
      refine yw_plainPath (b_within := w) W hy hk T hel (fun x x1 x2 => ?_) hov TE p1 (by omega) (by omega) hnd (nm_r (nI_1 t) (yw_told hn (by omega) ⟨yw_in32 (by omega), nm_r (e' := upd w t (tb (c + d) nd)) ?_ (nx _ _ ?_)⟩))
      · rcases Nat.eq_or_lt_of_le x1 with e | e
        · rw [e]; exact h16
        · have := hno x (by omega) e; omega
      · rw [nI_clamp (by omega), (TE (c + d) hj nd hnd).2 ⟨by omega, k6⟩]
      · refine ch_push (nu_n6 (K := K) (c := c + d) (by omega) k6).symm (by omega) (by omega) ?_
        rw [p2]
        exact ch_path W (by omega) p1 h
    refine br_t (nI_le (a := 7) (by omega) (by omega)) (br_t (nI_le (a := 4) (by omega) (by omega)) ?_)
    by_cases kk : K (c + d) = 14
    · obtain ⟨p1, p2, p3⟩ := L.2.2.2.2.2.2.1 kk
      obtain ⟨s, rfl, ws, hs⟩ := ch_head (show c + d + 1 < gm_e K c by omega) p1 h
      rw [kk]
      refine br_t (by decide) ?_
      rw [nI_pred]
      refine ⟨yw_in32 (by omega), ?_⟩
      rw [nI_clamp (by omega)]
      have fin : ∀ x, x = nu_n K O b_value tb nd ps sz (c + d) → ch_C K len (gm_e K c) (fun x => nu_n K O b_value tb nd ps sz x) (upd w s x) (s + 1) (c + d) := fun x hx => ch_push hx (by omega) (by omega) (by rw [p2]; exact hs)
      have vv := nu_n14 (O := O) (V := b_value) (tb := tb) (nd := nd) (ps := ps) (sz := sz) W hj kk
      refine ⟨fun z => ⟨yw_in32 (by omega), nm_e (nx _ _ (fin _ ?_))⟩, fun z => ⟨yw_in32 (by omega), nm_e (nx _ _ (fin _ ?_))⟩⟩
      · rw [vv, if_pos (ws.symm.trans z)]
      · rw [vv, if_neg (fun q => z (ws.trans q))]
    · refine br_f (fun z => kk ((yw_knk W (k := 14) (by omega)).mp z)) ?_
      obtain ⟨p1, p2, p3, p4, p5⟩ := L.2.2.2.2.2.1 ⟨by omega, by omega⟩
      obtain ⟨s1, rfl, ws1, hs1⟩ := ch_head (show c + d + 1 < gm_e K c by omega) p1 h
      obtain ⟨s, rfl, ws, hs⟩ := ch_head (show gm_e K (c + d + 1) < gm_e K c by omega) p2 hs1
      refine nm_r (e' := nI (s + 1)) (pk_m1 (s + 1)) ⟨yw_in32 (by omega), ?_⟩
      rw [nI_pred]
      refine ⟨yw_in32 (by omega), ?_⟩
      rw [nI_clamp (by omega), nI_clamp (by omega)]
      refine yw_calc (by omega) (by omega) ⟨yw_in32 (by omega), nm_e (nx _ _ (ch_push ?_ (by omega) (by omega) (by rw [p5]; exact hs)))⟩
      rw [ws1, ws, nu_n13 W hj (by omega) (by omega)]
theorem yw_inner {post : Int32 → SY → Prop} {K : Nat → Nat} {O : Nat → Int32} {len y c n nd : Nat} {tb : Nat → Nat → Int32} {ps sz : Int32} (W : gm_W K len) (hy : y + 30 ≤ 210) (hk : ys_k b_kind b_with y K O len) (T : tr_T b_parent n) (hov : ∀ x, x < len → K x = 15 → ∃ v, v < 72 ∧ O x = nI v)
    (TE : ∀ c, c < len → nu_TE K O b_value b_parent b_name len n tb c) (hc : c < len) (k14 : K c ≤ 14) (hnd : nd < n) (hno : ∀ x, c ≤ x → x < gm_e K c → K x ≤ 15) (h17 : K (gm_e K c) = 17)
    (hp : ∀ w : Nat → Int32, post (nu_n K O b_value tb nd ps sz c) (nI n, g_inner, g_rules, g_place, g_listed, g_depth, g_row, g_pc, g_node, g_position, g_size, g_fault, g_put, g_steps, b_name, b_parent, b_value, b_kind, b_with, b_count, b_bodyAt, b_priority, b_given, b_there, b_wanted, b_waiting, w, b_list, b_left, b_reached, b_sizes, b_each, b_backRow, b_backPc, b_backNode, b_backPosition, b_backSize, b_output)) : wpY_innerNumber post (nI n, g_inner, g_rules, g_place, g_listed, g_depth, g_row, g_pc, g_node, g_position, g_size, g_fault, g_put, g_steps, b_name, b_parent, b_value, b_kind, b_with, b_count, b_bodyAt, b_priority, b_given, b_there, b_wanted, b_waiting, b_within, b_list, b_left, b_reached, b_sizes, b_each, b_backRow, b_backPc, b_backNode, b_backPosition, b_backSize, b_output) (nI (y + c)) (nI (y + gm_e K c)) (nI nd) ps sz := by
  have hlt := (W.2.2 c hc).1
  refine nm_r (e' := nI (y + c + (gm_e K c - c)) - 1) (by rw [show y + c + (gm_e K c - c) = y + gm_e K c by omega]) ⟨gm_e K c - c + 1, yw_inner_l W hy hk T hov TE hc k14 hnd hno (by omega) hp (gm_e K c - c) _ 0 b_within (by omega) (by omega) ?_⟩
  rw [show c + (gm_e K c - c) = gm_e K c by omega]
  exact ch_pr_self (by omega) (by omega)
end
section
/-! the reference: the list of a STEP -/
variable {g_nodes g_inner g_rules g_place g_listed g_depth g_row g_pc g_node g_position g_size g_fault g_put g_steps : Int32} {b_name b_parent b_value b_kind b_with b_count b_bodyAt b_priority b_given b_there b_wanted b_waiting b_within b_list b_left b_reached b_sizes b_each b_backRow b_backPc b_backNode b_backPosition b_backSize b_output : Nat → Int32}
theorem yw_nb : ∀ m, m < 128 → (nI m).toInt8.toInt32.toInt8.toInt32 = nI m := by decide +kernel
theorem yw_nar {m : Nat} (h : m < 128) : vp_nar .byte (nI m).toInt8.toInt32 = nI m := by rw [vp_nar_byte]; exact yw_nb m h
/-- the list L lies in the array bl -/
def la (bl : Nat → Int32) (L : List Nat) : Prop := ∀ k m, L[k]? = some m → bl k = nI m
theorem la_0 {bl : Nat → Int32} : la bl [] := fun k m h => by simp at h
theorem la_p {bl : Nat → Int32} {L : List Nat} {m : Nat} (h : la bl L) : la (upd bl L.length (nI m)) (L ++ [m]) := fun k x hx => by
  rw [List.getElem?_append] at hx
  by_cases z : k < L.length
  · rw [if_pos z] at hx
    rw [pk_un (by omega)]; exact h k x hx
  · rw [if_neg z] at hx
    have hk : k - L.length = 0 := by
      rcases Nat.eq_zero_or_pos (k - L.length) with q | q
      · exact q
      · obtain ⟨p, hp⟩ : ∃ p, k - L.length = p + 1 := ⟨k - L.length - 1, by omega⟩
        rw [hp] at hx
        simp at hx
    rw [hk] at hx
    have e : k = L.length := by omega
    have : m = x := by simpa using hx
    rw [e, pk_us, this]
theorem ls_Td (back : Bool) {n k : Nat} (hk : k < n) : (ls_T back n).drop k = (if back = true then n - 1 - k else k) :: (ls_T back n).drop (k + 1) := by
  have hl : k < (ls_T back n).length := by
    unfold ls_T
    cases back <;> simp <;> exact hk
  rw [List.drop_eq_getElem_cons hl]
  congr 1
  cases back
  · simp [ls_T]
  · simp [ls_T]
theorem yw_list37 {post : SY → Prop} {n at' v a : Nat} {back : Bool} {x2 x5 : Int32} (h5 : x5 = if back = true then 1 else 0) (T : tr_T b_parent n) (hat : at' < 210) (hw : b_with at' = nI v) (hv : v < 72) (ha : a < n)
    (hp : ∀ bl, la bl ((ls_T back n).filter (tr_s b_parent b_name v a)) → ∃ k, wY_listOf_108 post x2 k (nI at' + 1) (nI n) g_inner g_rules g_place (nI ((ls_T back n).filter (tr_s b_parent b_name v a)).length) g_depth g_row g_pc g_node g_position g_size g_fault g_put g_steps b_name b_parent b_value b_kind b_with b_count b_bodyAt b_priority b_given b_there b_wanted b_waiting b_within bl b_left b_reached b_sizes b_each b_backRow b_backPc b_backNode b_backPosition b_backSize b_output) :
    ∀ d k f D bl, k + d = n → d < f → la bl D → D.length ≤ k → D ++ ((ls_T back n).drop k).filter (tr_s b_parent b_name v a) = (ls_T back n).filter (tr_s b_parent b_name v a) → wY_listOf_37 post (nI at') x2 (nI a) x5 (nI n) g_inner g_rules g_place g_depth g_row g_pc g_node g_position g_size g_fault g_put g_steps f (nI k) (nI D.length) b_name b_parent b_value b_kind b_with b_count b_bodyAt b_priority b_given b_there b_wanted b_waiting b_within bl b_left b_reached b_sizes b_each b_backRow b_backPc b_backNode b_backPosition b_backSize b_output := by
  have hn := T.1
  intro d
  induction d with
  | zero =>
    intro k f D bl hk hf hl hD e
    obtain ⟨f, rfl⟩ : ∃ x, f = x + 1 := ⟨f - 1, by omega⟩
    have e' : k = n := by omega
    subst e'
    have e0 : (ls_T back k).drop k = [] := by
      apply List.drop_eq_nil_of_le
      unfold ls_T
      cases back <;> simp
    rw [e0, List.filter_nil, List.append_nil] at e
    subst e
    exact br_t (nI_le (Nat.le_refl _) (by omega)) (nm_e (hp bl hl))
  | succ d ih =>
    intro k f D bl hk hf hl hD e
    obtain ⟨f, rfl⟩ : ∃ x, f = x + 1 := ⟨f - 1, by omega⟩
    have td := ls_Td back (show k < n by omega)
    rw [td] at e
    have body : ∀ m, m < n → D ++ (m :: (ls_T back n).drop (k + 1)).filter (tr_s b_parent b_name v a) = (ls_T back n).filter (tr_s b_parent b_name v a) → wY_listOf_65 post (wY_listOf_37 post (nI at') x2 (nI a) x5 (nI n) g_inner g_rules g_place g_depth g_row g_pc g_node g_position g_size g_fault g_put g_steps f) (nI at') x2 (nI a) x5 (nI k) (nI m) (nI n) g_inner g_rules g_place (nI D.length) g_depth g_row g_pc g_node g_position g_size g_fault g_put g_steps b_name b_parent b_value b_kind b_with b_count b_bodyAt b_priority b_given b_there b_wanted b_waiting b_within bl b_left b_reached b_sizes b_each b_backRow b_backPc b_backNode b_backPosition b_backSize b_output := by
      intro m hm e
      refine yw_onStep T hat hw hv ha hm (ys_b0 (fun z => nm_r (nI_1 k) (ih (k + 1) f D bl (by omega) (by omega) hl (by omega) ?_)) (fun z => nm_r (nI_1 D.length) ⟨vp_in_nI (by omega) (by omega), nm_r (e' := upd bl D.length (nI m)) (by rw [nI_clamp (by omega), yw_nar (by omega)]) (nm_r (nI_1 k) ?_)⟩))
      · rw [List.filter_cons_of_neg (by rw [z]; decide)] at e
        exact e
      · rw [List.filter_cons_of_pos z] at e
        have := ih (k + 1) f (D ++ [m]) _ (by omega) (by omega) (la_p hl) (by simp; omega) (by simpa using e)
        simpa using this
    refine br_f (nI_ge (by omega) (by omega)) ?_
    cases back
    · exact br_t (by rw [h5]; rfl) (body k (by omega) e)
    · refine br_f (by rw [h5]; decide) ?_
      obtain ⟨n', rfl⟩ : ∃ x, n = x + 1 := ⟨n - 1, by omega⟩
      rw [nI_pred, pk_sub (by omega)]
      exact body (n' - k) (by omega) (by simpa using e)
theorem yw_list162 {post : SY → Prop} {J : Int32 → Int32 → Int32 → Int32 → Int32 → Int32 → Int32 → Int32 → Int32 → Int32 → Int32 → Int32 → Int32 → Int32 → Int32 → (Nat → Int32) → (Nat → Int32) → (Nat → Int32) → (Nat → Int32) → (Nat → Int32) → (Nat → Int32) → (Nat → Int32) → (Nat → Int32) → (Nat → Int32) → (Nat → Int32) → (Nat → Int32) → (Nat → Int32) → (Nat → Int32) → (Nat → Int32) → (Nat → Int32) → (Nat → Int32) → (Nat → Int32) → (Nat → Int32) → (Nat → Int32) → (Nat → Int32) → (Nat → Int32) → (Nat → Int32) → (Nat → Int32) → (Nat → Int32) → Prop} {K : Nat → Nat} {O : Nat → Int32} {len y c n : Nat} {tb : Nat → Nat → Int32} {x2 : Int32} (W : gm_W K len) (hy : y + 30 ≤ 210) (hk : ys_k b_kind b_with y K O len) (T : tr_T b_parent n) (hov : ∀ x, x < len → K x = 15 → ∃ v, v < 72 ∧ O x = nI v)
    (TE : ∀ c, c < len → nu_TE K O b_value b_parent b_name len n tb c) (hc : c < len) (k16 : K c = 16) {L : List Nat} (hL : ∀ m, m ∈ L → m < n) (hL24 : L.length ≤ 24) {G : Nat → Nat → Bool} (hG : G = fun m p => decide (nu_n K O b_value tb m (nI p) (nI L.length) (c + 1) ≠ 0))
    (hJ : ∀ bl bw, la bl (ls_f G 0 L) → J (nI (y + gm_e K c)) (nI n) g_inner g_rules g_place (nI (ls_f G 0 L).length) g_depth g_row g_pc g_node g_position g_size g_fault g_put g_steps b_name b_parent b_value b_kind b_with b_count b_bodyAt b_priority b_given b_there b_wanted b_waiting bw bl b_left b_reached b_sizes b_each b_backRow b_backPc b_backNode b_backPosition b_backSize b_output) :
    ∀ d k f D bl bw, k + d = L.length → d < f → la bl D → (∀ j m, k ≤ j → L[j]? = some m → bl j = nI m) → D.length ≤ k → D ++ ls_f G k (L.drop k) = ls_f G 0 L → wY_listOf_162 post J x2 (nI (y + c)) (nI (y + gm_e K (c + 1))) (nI L.length) f (nI k) (nI n) g_inner g_rules g_place (nI D.length) g_depth g_row g_pc g_node g_position g_size g_fault g_put g_steps b_name b_parent b_value b_kind b_with b_count b_bodyAt b_priority b_given b_there b_wanted b_waiting bw bl b_left b_reached b_sizes b_each b_backRow b_backPc b_backNode b_backPosition b_backSize b_output := by
  have hl := W.1
  have hn := T.1
  obtain ⟨o1, o2, o3, o4, o5⟩ := (W.2.2 c hc).2.2.2.2.2.2.2.2.1 k16
  have hel := (W.2.2 c hc).2.1
  intro d
  induction d with
  | zero =>
    intro k f D bl bw hk' hf h1 h2 h3 e
    obtain ⟨f, rfl⟩ : ∃ x, f = x + 1 := ⟨f - 1, by omega⟩
    have e' : k = L.length := by omega
    subst e'
    have e0 : L.drop L.length = [] := List.drop_eq_nil_of_le (Nat.le_refl _)
    rw [e0, ls_f, List.append_nil] at e
    subst e
    exact br_t (nI_le (Nat.le_refl _) (by omega)) (nm_r (e' := nI (y + gm_e K c)) (by rw [nI_1, Nat.add_assoc, o4]) (hJ bl bw h1))
  | succ d ih =>
    intro k f D bl bw hk' hf h1 h2 h3 e
    obtain ⟨f, rfl⟩ : ∃ x, f = x + 1 := ⟨f - 1, by omega⟩
    have kl : k < L.length := by omega
    have td : L.drop k = L[k] :: L.drop (k + 1) := List.drop_eq_getElem_cons kl
    have hm : L[k] < n := hL _ (List.getElem_mem kl)
    have bk : bl k = nI L[k] := h2 k _ (Nat.le_refl _) (by simp)
    generalize L[k] = m at td hm bk
    rw [td, ls_f] at e
    refine br_f (nI_ge (by omega) (by omega)) ⟨vp_in_nI (by omega) (by omega), nm_r (e' := nI m) (by rw [nI_clamp (by omega)]; exact bk) ?_⟩
    rw [show nI (y + c) + 1 = nI (y + (c + 1)) by rw [nI_1, Nat.add_assoc], nI_1 k]
    refine yw_inner (b_list := bl) W hy hk T hov TE (by omega) o1 hm o5 o3 fun bw' => ?_
    by_cases hz : nu_n K O b_value tb m (nI (k + 1)) (nI L.length) (c + 1) = 0
    · have g : ¬ G m (k + 1) = true := by rw [hG]; simp [hz]
      rw [if_neg g] at e
      exact br_t hz (nm_e (ih (k + 1) f D bl bw' (by omega) (by omega) h1 (fun j m' hj => h2 j m' (by omega)) (by omega) e))
    · have g : G m (k + 1) = true := by rw [hG]; simp [hz]
      rw [if_pos g] at e
      refine br_f hz (nm_r (nI_1 D.length) ⟨vp_in_nI (by omega) (by omega), nm_r (e' := upd bl D.length (nI m)) (by rw [nI_clamp (by omega), yw_nar (by omega)]) (nm_e ?_)⟩)
      have := ih (k + 1) f (D ++ [m]) (upd bl D.length (nI m)) bw' (by omega) (by omega) (la_p h1) (fun j m' hj hh => by rw [pk_un (by omega)]; exact h2 j m' (by omega) hh) (by simp; omega) (by simpa using e)
      simpa using this
theorem yw_list130 {post : SY → Prop} {J : Int32 → Int32 → Int32 → Int32 → Int32 → Int32 → Int32 → Int32 → Int32 → Int32 → Int32 → Int32 → Int32 → Int32 → Int32 → (Nat → Int32) → (Nat → Int32) → (Nat → Int32) → (Nat → Int32) → (Nat → Int32) → (Nat → Int32) → (Nat → Int32) → (Nat → Int32) → (Nat → Int32) → (Nat → Int32) → (Nat → Int32) → (Nat → Int32) → (Nat → Int32) → (Nat → Int32) → (Nat → Int32) → (Nat → Int32) → (Nat → Int32) → (Nat → Int32) → (Nat → Int32) → (Nat → Int32) → (Nat → Int32) → (Nat → Int32) → (Nat → Int32) → (Nat → Int32) → Prop} {K : Nat → Nat} {O : Nat → Int32} {len y e : Nat} {x2 x6 : Int32} (W : gm_W K len) (hy : y + 30 ≤ 210) (hk : ys_k b_kind b_with y K O len) (he : e < len) (k17 : K e = 17) (hJ : ∃ k, wY_listOf_162 post J x2 x6 (nI (y + e)) g_listed k 0 g_nodes g_inner g_rules g_place 0 g_depth g_row g_pc g_node g_position g_size g_fault g_put g_steps b_name b_parent b_value b_kind b_with b_count b_bodyAt b_priority b_given b_there b_wanted b_waiting b_within b_list b_left b_reached b_sizes b_each b_backRow b_backPc b_backNode b_backPosition b_backSize b_output) :
    ∀ d j f, j + d = e → d < f → (∀ x, j ≤ x → x < e → K x ≠ 17) → wY_listOf_130 post J x2 x6 g_nodes g_inner g_rules g_place g_listed g_depth g_row g_pc g_node g_position g_size g_fault g_put g_steps b_name b_parent b_value b_kind b_with b_count b_bodyAt b_priority b_given b_there b_wanted b_waiting b_within b_list b_left b_reached b_sizes b_each b_backRow b_backPc b_backNode b_backPosition b_backSize b_output f (nI (y + j)) := by
  have hl := W.1
  intro d
  induction d with
  | zero =>
    intro j f hj hf _
    obtain ⟨f, rfl⟩ : ∃ x, f = x + 1 := ⟨f - 1, by omega⟩
    have e' : j = e := by omega
    subst e'
    refine ⟨vp_in_nI (by omega) (by omega), ?_⟩
    rw [nI_clamp (by omega), (hk j he).1, k17]
    exact br_t (by decide) hJ
  | succ d ih =>
    intro j f hj hf hx
    obtain ⟨f, rfl⟩ : ∃ x, f = x + 1 := ⟨f - 1, by omega⟩
    refine ⟨vp_in_nI (by omega) (by omega), ?_⟩
    rw [nI_clamp (by omega), (hk j (by omega)).1]
    exact br_f (fun z => hx j (Nat.le_refl _) (by omega) ((yw_knk W (k := 17) (by omega)).mp z)) (nm_r (e' := nI (y + (j + 1))) (by rw [nI_1, Nat.add_assoc]) (ih (j + 1) f (by omega) (by omega) fun x x1 x2 => hx x (by omega) x2))
theorem yw_list108 {post : SY → Prop} {K : Nat → Nat} {O : Nat → Int32} {len y en q n : Nat} {tb : Nat → Nat → Int32} (W : gm_W K len) (hy : y + 30 ≤ 210) (hk : ys_k b_kind b_with y K O len) (T : tr_T b_parent n) (hov : ∀ x, x < len → K x = 15 → ∃ v, v < 72 ∧ O x = nI v)
    (TE : ∀ c, c < len → nu_TE K O b_value b_parent b_name len n tb c) (hen : en ≤ len) (hq : q ≤ en) {Lf : List Nat}
    (hp : ∀ bl bw, la bl Lf → post (nI n, g_inner, g_rules, g_place, nI Lf.length, g_depth, g_row, g_pc, g_node, g_position, g_size, g_fault, g_put, g_steps, b_name, b_parent, b_value, b_kind, b_with, b_count, b_bodyAt, b_priority, b_given, b_there, b_wanted, b_waiting, bw, bl, b_left, b_reached, b_sizes, b_each, b_backRow, b_backPc, b_backNode, b_backPosition, b_backSize, b_output)) :
    ∀ h j f g L bl bw, gm_cd K len h j q → q - j < f → q ≤ j + g → nu_cd K O b_value tb g j L = Lf → (∀ m, m ∈ L → m < n) → L.length ≤ 24 → la bl L → wY_listOf_108 post (nI (y + en)) f (nI (y + j)) (nI n) g_inner g_rules g_place (nI L.length) g_depth g_row g_pc g_node g_position g_size g_fault g_put g_steps b_name b_parent b_value b_kind b_with b_count b_bodyAt b_priority b_given b_there b_wanted b_waiting bw bl b_left b_reached b_sizes b_each b_backRow b_backPc b_backNode b_backPosition b_backSize b_output := by
  have hl := W.1
  have hn := T.1
  have stop : ∀ f g L bl bw, K q ≠ 16 → nu_cd K O b_value tb g q L = Lf → la bl L → wY_listOf_108 post (nI (y + en)) (f + 1) (nI (y + q)) (nI n) g_inner g_rules g_place (nI L.length) g_depth g_row g_pc g_node g_position g_size g_fault g_put g_steps b_name b_parent b_value b_kind b_with b_count b_bodyAt b_priority b_given b_there b_wanted b_waiting bw bl b_left b_reached b_sizes b_each b_backRow b_backPc b_backNode b_backPosition b_backSize b_output := by
    intro f g L bl bw h16 e hla
    have e2 : L = Lf := by
      rw [← e]
      cases g with
      | zero => rfl
      | succ g => rw [nu_cd, if_neg h16]
    subst e2
    refine br_c (fun _ => hp bl bw hla) (fun z => ?_)
    have ql : q < len := by
      rcases Nat.lt_or_ge q len with v | v
      · exact v
      · exact absurd (nI_le (show y + en ≤ y + q by omega) (by omega)) z
    refine ⟨vp_in_nI (by omega) (by omega), ?_⟩
    rw [nI_clamp (by omega), (hk q ql).1]
    exact br_f (fun v => h16 ((yw_knk W (k := 16) (by omega)).mp v)) (hp bl bw hla)
  intro h
  induction h with
  | zero =>
    intro j f g L bl bw C hf hg e hm h24 hla
    obtain ⟨f, rfl⟩ : ∃ x, f = x + 1 := ⟨f - 1, by omega⟩
    obtain ⟨rfl, h16⟩ := C
    exact stop f g L bl bw h16 e hla
  | succ h ih =>
    intro j f g L bl bw C hf hg e hm h24 hla
    obtain ⟨f, rfl⟩ : ∃ x, f = x + 1 := ⟨f - 1, by omega⟩
    rcases C with ⟨rfl, h16⟩ | ⟨k16, c1, c2, c3, C⟩
    · exact stop f g L bl bw h16 e hla
    · have jl : j < len := by omega
      obtain ⟨o1, o2, o3, o4, o5⟩ := (W.2.2 j jl).2.2.2.2.2.2.2.2.1 k16
      obtain ⟨g, rfl⟩ : ∃ x, g = x + 1 := ⟨g - 1, by omega⟩
      rw [nu_cd, if_pos k16] at e
      refine br_f (nI_ge (by omega) (by omega)) ⟨vp_in_nI (by omega) (by omega), ?_⟩
      rw [nI_clamp (by omega), (hk j jl).1, k16]
      refine br_t (by decide) ⟨gm_e K (j + 1) - j + 1, yw_list130 (b_list := bl) (b_within := bw) W hy hk (by omega) o3 ⟨L.length + 1, ?_⟩ (gm_e K (j + 1) - j) j _ (by omega) (by omega) fun x x1 x2 => ?_⟩
      · refine yw_list162 W hy hk T hov TE jl k16 hm h24 rfl (fun bl' bw' hla' => ih (gm_e K j) f g _ bl' bw' C (by omega) (by omega) e (fun m z => hm m (ls_fm z)) (Nat.le_trans ls_fl h24) hla') L.length 0 _ [] bl bw (by omega) (by omega) la_0 (fun i m _ hh => hla i m hh) (Nat.le_refl _) rfl
      · rcases Nat.eq_or_lt_of_le x1 with z | z
        · rw [← z, k16]; omega
        · have := o5 x z x2; omega
theorem yw_listOf {post : SY → Prop} {K : Nat → Nat} {O : Nat → Int32} {len y en q n c a v : Nat} {tb : Nat → Nat → Int32} (W : gm_W K len) (hy : y + 30 ≤ 210) (hk : ys_k b_kind b_with y K O len) (T : tr_T b_parent n) (hov : ∀ x, x < len → K x = 15 → ∃ v, v < 72 ∧ O x = nI v)
    (TE : ∀ c, c < len → nu_TE K O b_value b_parent b_name len n tb c) (hen : en ≤ len) (hq : q ≤ en) (hc : c < len) (C : gm_cd K len (q - (c + 1)) (c + 1) q) (ho : O c = nI v) (hv : v < 72) (ha : a < n)
    (hp : ∀ bl bw, la bl (nu_L K O b_value b_parent b_name n tb c a) → post (nI n, g_inner, g_rules, g_place, nI (nu_L K O b_value b_parent b_name n tb c a).length, g_depth, g_row, g_pc, g_node, g_position, g_size, g_fault, g_put, g_steps, b_name, b_parent, b_value, b_kind, b_with, b_count, b_bodyAt, b_priority, b_given, b_there, b_wanted, b_waiting, bw, bl, b_left, b_reached, b_sizes, b_each, b_backRow, b_backPc, b_backNode, b_backPosition, b_backSize, b_output)) : wpY_listOf post (nI n, g_inner, g_rules, g_place, g_listed, g_depth, g_row, g_pc, g_node, g_position, g_size, g_fault, g_put, g_steps, b_name, b_parent, b_value, b_kind, b_with, b_count, b_bodyAt, b_priority, b_given, b_there, b_wanted, b_waiting, b_within, b_list, b_left, b_reached, b_sizes, b_each, b_backRow, b_backPc, b_backNode, b_backPosition, b_backSize, b_output) (nI (y + c)) (nI (y + en)) (nI a) := by
  have hl := W.1
  have hn := T.1
  have hw : b_with (y + c) = nI v := by rw [(hk c hc).2]; exact ho
  have e3 : nI v >>> ((3 : Int32) &&& 31) = nI (v / 8) := pk_shrN (by omega) _ 3 (by decide)
  have oo : nu_o O c = v := by show (O c).toNatClampNeg = v; rw [ho]; exact nI_clamp (by omega)
  have main : ∀ x5 : Int32, x5 = (if nu_bk (v / 8) = true then 1 else 0) → ∃ k, wY_listOf_37 post (nI (y + c)) (nI (y + en)) (nI a) x5 (nI n) g_inner g_rules g_place g_depth g_row g_pc g_node g_position g_size g_fault g_put g_steps k 0 0 b_name b_parent b_value b_kind b_with b_count b_bodyAt b_priority b_given b_there b_wanted b_waiting b_within b_list b_left b_reached b_sizes b_each b_backRow b_backPc b_backNode b_backPosition b_backSize b_output := fun x5 h5 => by
    refine ⟨n + 1, yw_list37 h5 T (by omega) hw hv ha (fun bl hla => ⟨q + 1, ?_⟩) n 0 (n + 1) [] b_list (by omega) (by omega) la_0 (Nat.le_refl _) rfl⟩
    rw [nI_1, Nat.add_assoc]
    refine yw_list108 W hy hk T hov TE hen hq hp (q - (c + 1)) (c + 1) (q + 1) 32 _ bl b_within C (by omega) (by omega) ?_ (fun m hm => ?_) ?_ hla
    · unfold nu_L
      rw [oo]
    · rw [List.mem_filter, ls_Tm] at hm
      exact hm.1
    · refine Nat.le_trans (List.length_filter_le _ _) ?_
      unfold ls_T
      split <;> simp <;> exact hn
  refine ⟨vp_in_nI (by omega) (by omega), nm_r (e' := nI (v / 8)) (by rw [nI_clamp (by omega), hw, e3]) ?_⟩
  have q9 : v / 8 < 9 := by omega
  generalize v / 8 = ax at main q9
  rcases (show ax = 0 ∨ ax = 1 ∨ ax = 2 ∨ ax = 3 ∨ ax = 4 ∨ ax = 5 ∨ ax = 6 ∨ ax = 7 ∨ ax = 8 by omega) with rfl | rfl | rfl | rfl | rfl | rfl | rfl | rfl | rfl
  · exact br_t (by decide) (main 0 rfl)
  · exact br_f (by decide) ⟨by decide, br_f (by decide) (main 0 rfl)⟩
  · exact br_f (by decide) ⟨by decide, br_t (by decide) (main 1 rfl)⟩
  · exact br_f (by decide) ⟨by decide, br_f (by decide) (main 0 rfl)⟩
  · exact br_f (by decide) ⟨by decide, br_t (by decide) (main 1 rfl)⟩
  · exact br_f (by decide) ⟨by decide, br_f (by decide) (main 0 rfl)⟩
  · exact br_f (by decide) ⟨by decide, br_t (by decide) (main 1 rfl)⟩
  · exact br_f (by decide) ⟨by decide, br_f (by decide) (main 0 rfl)⟩
  · exact br_f (by decide) ⟨by decide, br_t (by decide) (main 1 rfl)⟩
end
section
/-! the reference: what a path selects; numbers; the end of a number -/
variable {g_nodes g_inner g_rules g_place g_listed g_depth g_row g_pc g_node g_position g_size g_fault g_put g_steps : Int32} {b_name b_parent b_value b_kind b_with b_count b_bodyAt b_priority b_given b_there b_wanted b_waiting b_within b_list b_left b_reached b_sizes b_each b_backRow b_backPc b_backNode b_backPosition b_backSize b_output : Nat → Int32}
theorem yw_path64 {post : Int32 → SY → Prop} {J16 J29 : Int32 → Int32 → Int32 → Int32 → Int32 → Int32 → Int32 → Int32 → Int32 → Int32 → Int32 → Int32 → Int32 → Int32 → Int32 → Int32 → (Nat → Int32) → (Nat → Int32) → (Nat → Int32) → (Nat → Int32) → (Nat → Int32) → (Nat → Int32) → (Nat → Int32) → (Nat → Int32) → (Nat → Int32) → (Nat → Int32) → (Nat → Int32) → (Nat → Int32) → (Nat → Int32) → (Nat → Int32) → (Nat → Int32) → (Nat → Int32) → (Nat → Int32) → (Nat → Int32) → (Nat → Int32) → (Nat → Int32) → (Nat → Int32) → (Nat → Int32) → (Nat → Int32) → (Nat → Int32) → Prop} {x4 x5 x6 : Int32} {a n : Nat} {L : List Nat} {r0 : Int32} (hn : n ≤ 24) (hL : ∀ m, m ∈ L → m < n) (h24 : L.length ≤ 24) (hla : la b_list L)
    (hJ : ∀ r, (∀ i, i < 32 → (bt r i = true ↔ bt r0 i = true ∨ i ∈ L)) → J29 r (nI (a + 1)) g_nodes g_inner g_rules g_place (nI L.length) g_depth g_row g_pc g_node g_position g_size g_fault g_put g_steps b_name b_parent b_value b_kind b_with b_count b_bodyAt b_priority b_given b_there b_wanted b_waiting b_within b_list b_left b_reached b_sizes b_each b_backRow b_backPc b_backNode b_backPosition b_backSize b_output) :
    ∀ d k f r, k + d = L.length → d < f → (∀ i, i < 32 → ((bt r i = true ∨ i ∈ L.drop k) ↔ (bt r0 i = true ∨ i ∈ L))) → wY_path_64 post J16 J29 x4 x5 x6 (nI a) g_nodes g_inner g_rules g_place (nI L.length) g_depth g_row g_pc g_node g_position g_size g_fault g_put g_steps b_name b_parent b_value b_kind b_with b_count b_bodyAt b_priority b_given b_there b_wanted b_waiting b_within b_list b_left b_reached b_sizes b_each b_backRow b_backPc b_backNode b_backPosition b_backSize b_output f r (nI k) := by
  intro d
  induction d with
  | zero =>
    intro k f r hk hf hr
    obtain ⟨f, rfl⟩ : ∃ x, f = x + 1 := ⟨f - 1, by omega⟩
    have e' : k = L.length := by omega
    subst e'
    have e0 : L.drop L.length = [] := List.drop_eq_nil_of_le (Nat.le_refl _)
    refine br_t (nI_le (Nat.le_refl _) (by omega)) (nm_r (nI_1 a) (hJ r fun i hi => ?_))
    rw [← hr i hi, e0]
    exact ⟨Or.inl, fun z => z.elim id (fun y => by simp at y)⟩
  | succ d ih =>
    intro k f r hk hf hr
    obtain ⟨f, rfl⟩ : ∃ x, f = x + 1 := ⟨f - 1, by omega⟩
    have kl : k < L.length := by omega
    have td : L.drop k = L[k] :: L.drop (k + 1) := List.drop_eq_getElem_cons kl
    have hm : L[k] < n := hL _ (List.getElem_mem kl)
    have bk : b_list k = nI L[k] := hla k _ (by simp)
    generalize L[k] = m at td hm bk
    refine br_f (nI_ge (by omega) (by omega)) ⟨vp_in_nI (by omega) (by omega), nm_r (e' := r ||| ((1 : Int32) <<< (nI m &&& 31))) (by rw [nI_clamp (by omega), bk]) (nm_r (nI_1 k) (ih (k + 1) f _ (by omega) (by omega) fun i hi => ?_))⟩
    have := hr i hi
    rw [td, List.mem_cons] at this
    rw [← this, ms_set r (by omega) hi, Bool.or_eq_true, decide_eq_true_eq]
    constructor
    · rintro ((z | z) | z)
      · exact Or.inl z
      · exact Or.inr (Or.inl z)
      · exact Or.inr (Or.inr z)
    · rintro (z | z | z)
      · exact Or.inl (Or.inl z)
      · exact Or.inl (Or.inr z)
      · exact Or.inr z
theorem nu_Ll {K : Nat → Nat} {O V : Nat → Int32} {tb : Nat → Nat → Int32} : ∀ {f c : Nat} {L : List Nat}, (nu_cd K O V tb f c L).length ≤ L.length
  | 0, _, _ => Nat.le_refl _
  | f + 1, c, L => by
    rw [nu_cd]
    split
    · exact Nat.le_trans nu_Ll ls_fl
    · exact Nat.le_refl _
theorem nu_L24 {K : Nat → Nat} {O V P N : Nat → Int32} {n : Nat} {tb : Nat → Nat → Int32} {c a : Nat} (hn : n ≤ 24) : (nu_L K O V P N n tb c a).length ≤ 24 := by
  refine Nat.le_trans nu_Ll (Nat.le_trans (List.length_filter_le _ _) ?_)
  unfold ls_T
  split <;> simp <;> exact hn
theorem yw_path29 {post : Int32 → SY → Prop} {J : Int32 → Int32 → Int32 → Int32 → Int32 → Int32 → Int32 → Int32 → Int32 → Int32 → Int32 → Int32 → Int32 → Int32 → Int32 → Int32 → (Nat → Int32) → (Nat → Int32) → (Nat → Int32) → (Nat → Int32) → (Nat → Int32) → (Nat → Int32) → (Nat → Int32) → (Nat → Int32) → (Nat → Int32) → (Nat → Int32) → (Nat → Int32) → (Nat → Int32) → (Nat → Int32) → (Nat → Int32) → (Nat → Int32) → (Nat → Int32) → (Nat → Int32) → (Nat → Int32) → (Nat → Int32) → (Nat → Int32) → (Nat → Int32) → (Nat → Int32) → (Nat → Int32) → (Nat → Int32) → Prop} {S : Int32} {K : Nat → Nat} {O : Nat → Int32} {len y q n c v : Nat} {tb : Nat → Nat → Int32} (W : gm_W K len) (hy : y + 30 ≤ 210) (hk : ys_k b_kind b_with y K O len) (T : tr_T b_parent n) (hov : ∀ x, x < len → K x = 15 → ∃ v, v < 72 ∧ O x = nI v)
    (TE : ∀ c, c < len → nu_TE K O b_value b_parent b_name len n tb c) (hc : c < len) (hq : q ≤ gm_e K c) (C : gm_cd K len (q - (c + 1)) (c + 1) q) (hs : K q ≠ 15 → gm_e K c = q) (ho : O c = nI v) (hv : v < 72)
    (hJ : ∀ r gl bl bw, (∀ i, i < 32 → (bt r i = true ↔ ∃ a, a < n ∧ bt S a = true ∧ i ∈ nu_L K O b_value b_parent b_name n tb c a)) → J r (nI (y + q)) (nI n) g_inner g_rules g_place gl g_depth g_row g_pc g_node g_position g_size g_fault g_put g_steps b_name b_parent b_value b_kind b_with b_count b_bodyAt b_priority b_given b_there b_wanted b_waiting bw bl b_left b_reached b_sizes b_each b_backRow b_backPc b_backNode b_backPosition b_backSize b_output) :
    ∀ d a f r gl bl bw, a + d = n → d < f → (∀ i, i < 32 → (bt r i = true ↔ ∃ b, b < a ∧ bt S b = true ∧ i ∈ nu_L K O b_value b_parent b_name n tb c b)) → wY_path_29 post J S (nI (y + gm_e K c)) (nI (y + c)) f r (nI a) (nI n) g_inner g_rules g_place gl g_depth g_row g_pc g_node g_position g_size g_fault g_put g_steps b_name b_parent b_value b_kind b_with b_count b_bodyAt b_priority b_given b_there b_wanted b_waiting bw bl b_left b_reached b_sizes b_each b_backRow b_backPc b_backNode b_backPosition b_backSize b_output := by
  have hn := T.1
  have hel := (W.2.2 c hc).2.1
  intro d
  induction d with
  | zero =>
    intro a f r gl bl bw ha hf hr
    obtain ⟨f, rfl⟩ : ∃ x, f = x + 1 := ⟨f - 1, by omega⟩
    have e' : a = n := by omega
    subst e'
    exact br_t (nI_le (Nat.le_refl _) (by omega)) (yw_pathStep W hy hk hc hq C hs (hJ r gl bl bw hr))
  | succ d ih =>
    intro a f r gl bl bw ha hf hr
    obtain ⟨f, rfl⟩ : ∃ x, f = x + 1 := ⟨f - 1, by omega⟩
    refine br_f (nI_ge (by omega) (by omega)) ?_
    cases hb : bt S a
    · refine br_t (ms_f (by omega) hb) (nm_r (nI_1 a) (ih (a + 1) f r gl bl bw (by omega) (by omega) fun i hi => (hr i hi).trans ⟨fun ⟨b, b1, b2⟩ => ⟨b, by omega, b2⟩, fun ⟨b, b1, b2, b3⟩ => ⟨b, ?_, b2, b3⟩⟩))
      rcases Nat.lt_or_ge b a with z | z
      · exact z
      · have : b = a := by omega
        rw [this, hb] at b2
        exact nomatch b2
    · refine br_f (ms_t (by omega) hb) (yw_listOf (b_list := bl) (b_within := bw) (g_listed := gl) W hy hk T hov TE hel hq hc C ho hv (show a < n by omega) fun bl' bw' hla => ?_)
      refine ⟨25, yw_path64 (r0 := r) hn (fun m hm => nu_Lm hm) (nu_L24 hn) hla (fun r' hr' => ih (a + 1) f r' _ bl' bw' (by omega) (by omega) fun i hi => ?_) _ 0 25 r (Nat.zero_add _) (by have := nu_L24 (K := K) (O := O) (V := b_value) (P := b_parent) (N := b_name) (tb := tb) (c := c) (a := a) hn; omega) fun i hi => by rw [List.drop_zero]⟩
      rw [hr' i hi, hr i hi]
      constructor
      · rintro (⟨b, b1, b2⟩ | z)
        · exact ⟨b, by omega, b2⟩
        · exact ⟨a, by omega, hb, z⟩
      · rintro ⟨b, b1, b2, b3⟩
        rcases Nat.lt_or_ge b a with z | z
        · exact Or.inl ⟨b, z, b2, b3⟩
        · have : b = a := by omega
          rw [this] at b3
          exact Or.inr b3
theorem yw_path16 {post : Int32 → SY → Prop} {ans : Int32} {K : Nat → Nat} {O : Nat → Int32} {len y en n : Nat} {tb : Nat → Nat → Int32} (W : gm_W K len) (hy : y + 30 ≤ 210) (hk : ys_k b_kind b_with y K O len) (T : tr_T b_parent n) (hov : ∀ x, x < len → K x = 15 → ∃ v, v < 72 ∧ O x = nI v)
    (TE : ∀ c, c < len → nu_TE K O b_value b_parent b_name len n tb c) (hen : en ≤ len)
    (hp : ∀ gl bl bw, post ans (nI n, g_inner, g_rules, g_place, gl, g_depth, g_row, g_pc, g_node, g_position, g_size, g_fault, g_put, g_steps, b_name, b_parent, b_value, b_kind, b_with, b_count, b_bodyAt, b_priority, b_given, b_there, b_wanted, b_waiting, bw, bl, b_left, b_reached, b_sizes, b_each, b_backRow, b_backPc, b_backNode, b_backPosition, b_backSize, b_output)) :
    ∀ d j f S gl bl bw, en - j ≤ d → d < f → j ≤ en → (K j = 15 → gm_e K j = en ∧ pa_I n tb S j ans) → (K j ≠ 15 → j = en ∧ S = ans) → wY_path_16 post (nI (y + en)) f S (nI (y + j)) (nI n) g_inner g_rules g_place gl g_depth g_row g_pc g_node g_position g_size g_fault g_put g_steps b_name b_parent b_value b_kind b_with b_count b_bodyAt b_priority b_given b_there b_wanted b_waiting bw bl b_left b_reached b_sizes b_each b_backRow b_backPc b_backNode b_backPosition b_backSize b_output := by
  have hn := T.1
  have hl := W.1
  intro d
  induction d with
  | zero =>
    intro j f S gl bl bw hj hf hje i1 i2
    obtain ⟨f, rfl⟩ : ∃ x, f = x + 1 := ⟨f - 1, by omega⟩
    have e : j = en := by omega
    subst e
    have n15 : K j ≠ 15 := fun z => by
      have a := (i1 z).1
      rcases Nat.lt_or_ge j len with q | q
      · have := (W.2.2 j q).1; omega
      · have := W.2.1 j q; omega
    rw [(i2 n15).2]
    exact br_t (nI_le (Nat.le_refl _) (by omega)) (hp gl bl bw)
  | succ d ih =>
    intro j f S gl bl bw hj hf hje i1 i2
    obtain ⟨f, rfl⟩ : ∃ x, f = x + 1 := ⟨f - 1, by omega⟩
    by_cases k15 : K j = 15
    · obtain ⟨g1, g2⟩ := i1 k15
      have jl : j < len := by
        rcases Nat.lt_or_ge j len with q | q
        · exact q
        · have := W.2.1 j q; omega
      have glt := (W.2.2 j jl).1
      obtain ⟨v, hv, ho⟩ := hov j jl k15
      obtain ⟨q, C, q1, q2, q3, q4, q5, q6, q7⟩ := (W.2.2 j jl).2.2.2.2.2.2.2.1 k15
      subst g1
      refine br_f (nI_ge (by omega) (by omega)) ⟨n + 1, yw_path29 W hy hk T hov TE jl q2 C q5 ho hv (fun r gl' bl' bw' hr => ?_) n 0 (n + 1) 0 gl bl bw (by omega) (by omega) fun i hi => ⟨fun z => absurd z (by rw [b_0]; decide), fun ⟨b, b1, _⟩ => absurd b1 (by omega)⟩⟩
      have st := pa_step (S' := r) hn (TE j jl) k15 C g2 hr
      refine ih q f r gl' bl' bw' (by omega) (by omega) q2 (fun z => ⟨(q4 z).1.symm, st.1 z⟩) (fun z => ⟨(q5 z).symm, st.2 z⟩)
    · obtain ⟨e, e2⟩ := i2 k15
      rw [e, e2]
      exact br_t (nI_le (Nat.le_refl _) (by omega)) (hp gl bl bw)
theorem yw_path {post : Int32 → SY → Prop} {K : Nat → Nat} {O : Nat → Int32} {len y en n i a : Nat} {tb : Nat → Nat → Int32} (W : gm_W K len) (hy : y + 30 ≤ 210) (hk : ys_k b_kind b_with y K O len) (T : tr_T b_parent n) (hov : ∀ x, x < len → K x = 15 → ∃ v, v < 72 ∧ O x = nI v)
    (TE : ∀ c, c < len → nu_TE K O b_value b_parent b_name len n tb c) (hen : en ≤ len) (k15 : K i = 15) (he : gm_e K i ≤ en) (hi : i < len) (ha : a < n)
    (hp : ∀ gl bl bw, post (tb i a) (nI n, g_inner, g_rules, g_place, gl, g_depth, g_row, g_pc, g_node, g_position, g_size, g_fault, g_put, g_steps, b_name, b_parent, b_value, b_kind, b_with, b_count, b_bodyAt, b_priority, b_given, b_there, b_wanted, b_waiting, bw, bl, b_left, b_reached, b_sizes, b_each, b_backRow, b_backPc, b_backNode, b_backPosition, b_backSize, b_output)) : wpY_path post (nI n, g_inner, g_rules, g_place, g_listed, g_depth, g_row, g_pc, g_node, g_position, g_size, g_fault, g_put, g_steps, b_name, b_parent, b_value, b_kind, b_with, b_count, b_bodyAt, b_priority, b_given, b_there, b_wanted, b_waiting, b_within, b_list, b_left, b_reached, b_sizes, b_each, b_backRow, b_backPc, b_backNode, b_backPosition, b_backSize, b_output) (nI (y + i)) (nI (y + en)) (nI a) := by
  have glt := (W.2.2 i hi).1
  exact nm_e (yw_pathEnd W hy hk hen k15 he ⟨gm_e K i + 1, yw_path16 W hy hk T hov TE (W.2.2 i hi).2.1 hp (gm_e K i) i _ _ g_listed b_list b_within (by omega) (by omega) (by omega) (fun _ => ⟨rfl, pa_0 T.1 ha⟩) (fun z => absurd k15 z)⟩)
/-- m numbers stand from i to t -/
def ne_C (K : Nat → Nat) (len t : Nat) : Nat → Nat → Prop
  | 0, i => i = t
  | m + 1, i => K i ≤ 14 ∧ i < len ∧ gm_e K i ≤ t ∧ ne_C K len t m (gm_e K i)
theorem ne_ge {K : Nat → Nat} {len t : Nat} (W : gm_W K len) : ∀ {m i : Nat}, ne_C K len t m i → i + m ≤ t
  | 0, i, h => by rw [ne_C] at h; omega
  | m + 1, i, ⟨_, h2, _, h4⟩ => by
    have := ne_ge W h4
    have := (W.2.2 i h2).1
    omega
theorem yw_numberEnd_l {post : Int32 → Prop} {K : Nat → Nat} {O : Nat → Int32} {len y en t : Nat} (W : gm_W K len) (hy : y + 30 ≤ 210) (hk : ys_k b_kind b_with y K O len) (hen : en ≤ len) (ht : t ≤ en) (hp : post (nI (y + t))) :
    ∀ d i m f, t - i ≤ d → d < f → ne_C K len t m i → wY_numberEnd_5 post (nI (y + en)) g_nodes g_inner g_rules g_place g_listed g_depth g_row g_pc g_node g_position g_size g_fault g_put g_steps b_name b_parent b_value b_kind b_with b_count b_bodyAt b_priority b_given b_there b_wanted b_waiting b_within b_list b_left b_reached b_sizes b_each b_backRow b_backPc b_backNode b_backPosition b_backSize b_output f (nI (y + i)) (nI m) := by
  have hl := W.1
  intro d
  induction d with
  | zero =>
    intro i m f hi hf h
    obtain ⟨f, rfl⟩ : ∃ x, f = x + 1 := ⟨f - 1, by omega⟩
    have g := ne_ge W h
    have m0 : m = 0 := by omega
    subst m0
    have e : i = t := h
    subst e
    exact br_t (by decide) hp
  | succ d ih =>
    intro i m f hi hf h
    obtain ⟨f, rfl⟩ : ∃ x, f = x + 1 := ⟨f - 1, by omega⟩
    cases m with
    | zero =>
      have e : i = t := h
      subst e
      exact br_t (by decide) hp
    | succ m =>
      have g0 := ne_ge W h
      obtain ⟨k14, il, h3, h4⟩ := h
      have g := ne_ge W h4
      have L := W.2.2 i il
      have L1 := L.1
      have e1 : nI (y + i) + 1 = nI (y + (i + 1)) := by rw [nI_1, Nat.add_assoc]
      have em : nI (m + 1) + (-1) = nI m := pk_m1 m
      refine br_f (nI_nle (by omega) (by omega)) (nm_r e1 ⟨vp_in_nI (by omega) (by omega), nm_r (e' := nI (K i)) (by rw [nI_clamp (by omega)]; exact (hk i il).1) ?_⟩)
      by_cases k6 : K i ≤ 6
      · refine br_t (nI_le (b := 6) k6 (by omega)) (br_f (fun z => ?_) (nm_r em ?_))
        · have := (yw_knk W (k := 14) (by omega)).mp z; omega
        · by_cases k3 : K i ≤ 3
          · refine br_t (nI_le (b := 3) k3 (by omega)) ?_
            rw [← L.2.2.2.1 k3]
            exact ih (gm_e K i) m f (by omega) (by omega) h4
          · obtain ⟨p1, p2, p3⟩ := L.2.2.2.2.1 ⟨by omega, k6⟩
            refine br_f (nI_ge (b := K i) (a := 3) (by omega) (by omega)) (br_f (nI_ge (b := 7) (by omega) (by omega)) (yw_pathEnd W hy hk hen p1 (by omega) ?_))
            rw [← p2]
            exact ih (gm_e K i) m f (by omega) (by omega) h4
      · refine br_f (nI_ge (b := K i) (a := 6) (by omega) (by omega)) ?_
        by_cases kk : K i = 14
        · obtain ⟨p1, p2, p3⟩ := L.2.2.2.2.2.2.1 kk
          rw [kk]
          refine br_t (by decide) (br_t (by decide) (nm_r (e' := nI (m + 1)) (Int32.add_zero _) (br_f (by decide) (br_t (by decide) ?_))))
          exact ih (i + 1) (m + 1) f (by omega) (by omega) ⟨p1, by omega, by rw [← p2]; exact h3, by rw [← p2]; exact h4⟩
        · obtain ⟨p1, p2, p3, p4, p5⟩ := L.2.2.2.2.2.1 ⟨by omega, by omega⟩
          refine br_f (nI_ge (b := 14) (by omega) (by omega)) (nm_r (nI_1 (m + 1)) (br_f (nI_ge (b := K i) (a := 3) (by omega) (by omega)) (br_t (nI_le (a := 7) (by omega) (by omega)) ?_)))
          exact ih (i + 1) (m + 2) f (by omega) (by omega) ⟨p1, by omega, by omega, p2, by omega, by rw [← p5]; exact h3, by rw [← p5]; exact h4⟩
theorem yw_numberEnd {post : Int32 → Prop} {K : Nat → Nat} {O : Nat → Int32} {len y en i : Nat} (W : gm_W K len) (hy : y + 30 ≤ 210) (hk : ys_k b_kind b_with y K O len) (hen : en ≤ len) (hi : i < len) (k14 : K i ≤ 14) (ht : gm_e K i ≤ en) (hp : post (nI (y + gm_e K i))) : wpY_numberEnd post (g_nodes, g_inner, g_rules, g_place, g_listed, g_depth, g_row, g_pc, g_node, g_position, g_size, g_fault, g_put, g_steps, b_name, b_parent, b_value, b_kind, b_with, b_count, b_bodyAt, b_priority, b_given, b_there, b_wanted, b_waiting, b_within, b_list, b_left, b_reached, b_sizes, b_each, b_backRow, b_backPc, b_backNode, b_backPosition, b_backSize, b_output) (nI (y + i)) (nI (y + en)) :=
  ⟨gm_e K i + 1, yw_numberEnd_l W hy hk hen ht hp (gm_e K i) i 1 _ (by omega) (by omega) ⟨k14, hi, Nat.le_refl _, rfl⟩⟩
end
section
/-! the reference: a number anywhere -/
variable {g_nodes g_inner g_rules g_place g_listed g_depth g_row g_pc g_node g_position g_size g_fault g_put g_steps : Int32} {b_name b_parent b_value b_kind b_with b_count b_bodyAt b_priority b_given b_there b_wanted b_waiting b_within b_list b_left b_reached b_sizes b_each b_backRow b_backPc b_backNode b_backPosition b_backSize b_output : Nat → Int32}
theorem yw_outer30 {post : Int32 → SY → Prop} {J : Int32 → Int32 → Int32 → Int32 → Int32 → Int32 → Int32 → Int32 → Int32 → Int32 → Int32 → Int32 → Int32 → Int32 → Int32 → Int32 → (Nat → Int32) → (Nat → Int32) → (Nat → Int32) → (Nat → Int32) → (Nat → Int32) → (Nat → Int32) → (Nat → Int32) → (Nat → Int32) → (Nat → Int32) → (Nat → Int32) → (Nat → Int32) → (Nat → Int32) → (Nat → Int32) → (Nat → Int32) → (Nat → Int32) → (Nat → Int32) → (Nat → Int32) → (Nat → Int32) → (Nat → Int32) → (Nat → Int32) → (Nat → Int32) → (Nat → Int32) → (Nat → Int32) → (Nat → Int32) → Prop} {x1 x2 x3 x4 x5 x6 x8 : Int32} {K : Nat → Nat} {O : Nat → Int32} {len y o : Nat} (W : gm_W K len) (hy : y + 30 ≤ 210) (hk : ys_k b_kind b_with y K O len) (ho : o < len) (k16 : K o = 16) (hJ : wY_outerNumber_48 post J x1 x2 x3 x4 x5 x6 (nI (y + o)) x8 g_nodes g_inner g_rules g_place g_listed g_depth g_row g_pc g_node g_position g_size g_fault g_put g_steps b_name b_parent b_value b_kind b_with b_count b_bodyAt b_priority b_given b_there b_wanted b_waiting b_within b_list b_left b_reached b_sizes b_each b_backRow b_backPc b_backNode b_backPosition b_backSize b_output) :
    ∀ s f, o + s < len → s < f → (∀ x, o < x → x ≤ o + s → K x ≠ 16) → wY_outerNumber_30 post J x1 x2 x3 x4 x5 x6 x8 g_nodes g_inner g_rules g_place g_listed g_depth g_row g_pc g_node g_position g_size g_fault g_put g_steps b_name b_parent b_value b_kind b_with b_count b_bodyAt b_priority b_given b_there b_wanted b_waiting b_within b_list b_left b_reached b_sizes b_each b_backRow b_backPc b_backNode b_backPosition b_backSize b_output f (nI (y + (o + s))) := by
  have hl := W.1
  intro s
  induction s with
  | zero =>
    intro f _ hf _
    obtain ⟨f, rfl⟩ : ∃ x, f = x + 1 := ⟨f - 1, by omega⟩
    refine ⟨vp_in_nI (by omega) (by omega), ?_⟩
    rw [nI_clamp (by omega), Nat.add_zero, (hk o ho).1, k16]
    exact br_t (by decide) hJ
  | succ s ih =>
    intro f hs hf hx
    obtain ⟨f, rfl⟩ : ∃ x, f = x + 1 := ⟨f - 1, by omega⟩
    refine ⟨vp_in_nI (by omega) (by omega), ?_⟩
    rw [nI_clamp (by omega), (hk (o + (s + 1)) hs).1]
    exact br_f (fun z => hx (o + (s + 1)) (by omega) (Nat.le_refl _) ((yw_knk W (k := 16) (by omega)).mp z)) (nm_r (e' := nI (y + (o + s))) (by rw [show y + (o + (s + 1)) = (y + (o + s)) + 1 by omega]; exact pk_m1 _) (ih f (by omega) (by omega) fun x x1 x2 => hx x x1 (by omega)))
/-- no condition from c on is cut at i -/
def yo_N (K : Nat → Nat) (c i : Nat) : Prop := ∀ o, c ≤ o → o < i → K o = 16 → gm_e K o ≤ i
theorem yw_outer_l {post : Int32 → SY → Prop} {K : Nat → Nat} {O : Nat → Int32} {len y c n nd : Nat} {tb : Nat → Nat → Int32} {ps sz : Int32} (W : gm_W K len) (hy : y + 30 ≤ 210) (hk : ys_k b_kind b_with y K O len) (T : tr_T b_parent n) (hov : ∀ x, x < len → K x = 15 → ∃ v, v < 72 ∧ O x = nI v)
    (TE : ∀ c, c < len → nu_TE K O b_value b_parent b_name len n tb c) (hc : c < len) (k14 : K c ≤ 14) (hnd : nd < n) (hno : ∀ x, c ≤ x → x < gm_e K c → K x ≤ 17)
    (hp : ∀ (gl : Int32) (wt bl bw : Nat → Int32), post (nu_n K O b_value tb nd ps sz c) (nI n, g_inner, g_rules, g_place, gl, g_depth, g_row, g_pc, g_node, g_position, g_size, g_fault, g_put, g_steps, b_name, b_parent, b_value, b_kind, b_with, b_count, b_bodyAt, b_priority, b_given, b_there, b_wanted, wt, bw, bl, b_left, b_reached, b_sizes, b_each, b_backRow, b_backPc, b_backNode, b_backPosition, b_backSize, b_output)) :
    ∀ d f t gl w bl bw, c + d ≤ gm_e K c → d < f → yo_N K c (c + d) → ch_C K len (gm_e K c) (fun x => nu_n K O b_value tb nd ps sz x) w t (c + d) → wY_outerNumber_8 post (nI (y + c)) (nI (y + gm_e K c)) (nI nd) ps sz f (nI t) (nI (y + c + d) - 1) (nI n) g_inner g_rules g_place gl g_depth g_row g_pc g_node g_position g_size g_fault g_put g_steps b_name b_parent b_value b_kind b_with b_count b_bodyAt b_priority b_given b_there b_wanted w bw bl b_left b_reached b_sizes b_each b_backRow b_backPc b_backNode b_backPosition b_backSize b_output := by
  have hl := W.1
  have hn := T.1
  have hel := (W.2.2 c hc).2.1
  have hlt := (W.2.2 c hc).1
  intro d
  induction d using Nat.strongRecOn with
  | _ d ih =>
  cases d with
  | zero =>
    intro f t gl w bl bw _ hf _ h
    obtain ⟨f, rfl⟩ : ∃ x, f = x + 1 := ⟨f - 1, by omega⟩
    have z := (ch_end hlt k14 rfl h).2
    refine br_t (xw_m1lt (by omega)) ?_
    rw [z]
    exact hp gl w bl bw
  | succ d =>
    intro f t gl w bl bw hd hf hN h
    obtain ⟨f, rfl⟩ : ∃ x, f = x + 1 := ⟨f - 1, by omega⟩
    have ex : nI (y + c + (d + 1)) - 1 = nI (y + (c + d)) := by
      rw [show y + c + (d + 1) = (y + (c + d)) + 1 by omega, nI_pred]
    rw [ex]
    have hj : c + d < len := by omega
    have L := W.2.2 (c + d) hj
    have lam := (W.2.2 c hc).2.2.1 (c + d) (by omega) (by omega)
    have hjk := hno (c + d) (by omega) (by omega)
    have tl := ch_len W hel (by omega) h
    have nx : ∀ d' t' gl' w' bl' bw', d' ≤ d → yo_N K c (c + d') → ch_C K len (gm_e K c) (fun x => nu_n K O b_value tb nd ps sz x) w' t' (c + d') → ∀ x7, x7 = nI (y + (c + d')) + (-1) → wY_outerNumber_8 post (nI (y + c)) (nI (y + gm_e K c)) (nI nd) ps sz f (nI t') x7 (nI n) g_inner g_rules g_place gl' g_depth g_row g_pc g_node g_position g_size g_fault g_put g_steps b_name b_parent b_value b_kind b_with b_count b_bodyAt b_priority b_given b_there b_wanted w' bw' bl' b_left b_reached b_sizes b_each b_backRow b_backPc b_backNode b_backPosition b_backSize b_output := fun d' t' gl' w' bl' bw' hd' hN' h' => nm_r (e' := nI (y + c + d') - 1) (by rw [xw_m1, Nat.add_assoc]) (ih d' (by omega) f t' gl' w' bl' bw' (by omega) (by omega) hN' h')
    refine br_f (nI_nlt (by omega) (by omega)) ⟨vp_in_nI (by omega) (by omega), nm_r (e' := nI (K (c + d))) (by rw [nI_clamp (by omega)]; exact (hk (c + d) hj).1) ?_⟩
    by_cases k17 : K (c + d) = 17
    · obtain ⟨q1, o, o1, o2, o3⟩ := L.2.2.2.2.2.2.2.2.2.2.1 k17
      obtain ⟨p1, p2, p3, p4, p5⟩ := (W.2.2 o (by omega)).2.2.2.2.2.2.2.2.1 o2
      have oc : c ≤ o := by
        rcases Nat.lt_or_ge o c with z | z
        · exfalso
          have cj : c ≠ c + d := fun q => by rw [← q] at k17; omega
          have := (W.2.2 (o + 1) (by omega)).2.2.1 c (by omega) (by omega)
          omega
        · exact z
      rw [k17]
      refine br_t (by decide) ⟨len + 1, ?_⟩
      have := yw_outer30 (post := post) (J := wY_outerNumber_8 post (nI (y + c)) (nI (y + gm_e K c)) (nI nd) ps sz f) (x1 := nI (y + c)) (x2 := nI (y + gm_e K c)) (x3 := nI nd) (x4 := ps) (x5 := sz) (x6 := nI t) (x8 := nI 17) (g_nodes := nI n) (g_listed := gl) (b_waiting := w) (b_list := bl) (b_within := bw) (g_inner := g_inner) (g_rules := g_rules) (g_place := g_place) (g_depth := g_depth) (g_row := g_row) (g_pc := g_pc) (g_node := g_node) (g_position := g_position) (g_size := g_size) (g_fault := g_fault) (g_put := g_put) (g_steps := g_steps) (b_name := b_name) (b_parent := b_parent) (b_value := b_value) (b_count := b_count) (b_bodyAt := b_bodyAt) (b_priority := b_priority) (b_given := b_given) (b_there := b_there) (b_wanted := b_wanted) (b_left := b_left) (b_reached := b_reached) (b_sizes := b_sizes) (b_each := b_each) (b_backRow := b_backRow) (b_backPc := b_backPc) (b_backNode := b_backNode) (b_backPosition := b_backPosition) (b_backSize := b_backSize) (b_output := b_output) W hy hk (show o < len by omega) o2 ?_ (c + d - o) (len + 1) (by omega) (by omega) (fun x x1 x2 => ?_)
      · rw [show o + (c + d - o) = c + d by omega] at this
        exact this
      · refine br_t (by decide) ?_
        have e : o = c + (o - c) := by omega
        rw [e]
        refine nx (o - c) t gl w bl bw (by omega) (fun o' a1 a2 a3 => ?_) (by rw [← e]; exact ch_close hj (by omega) o2 o3 h)
        obtain ⟨r1, r2, r3, r4, r5⟩ := (W.2.2 o' (by omega)).2.2.2.2.2.2.2.2.1 a3
        rcases Nat.lt_or_ge o (gm_e K (o' + 1)) with z | z
        · have := r5 o (by omega) z; omega
        · rcases Nat.eq_or_lt_of_le z with q | q
          · rw [q, o2] at r3; omega
          · omega
      · rcases Nat.eq_or_lt_of_le x2 with q | q
        · rw [q, show o + (c + d - o) = c + d by omega, k17]; omega
        · have := p5 x (by omega) (by omega); omega
    refine br_f (fun z => k17 ((yw_knk W (k := 17) (by omega)).mp z)) (br_f (fun z => k17 ((yw_knk W (k := 17) (by omega)).mp z)) ?_)
    have k16 : K (c + d) ≠ 16 := fun z => by
      obtain ⟨p1, p2, p3, p4, p5⟩ := L.2.2.2.2.2.2.2.2.1 z
      have := hN (c + d) (by omega) (by omega) z
      omega
    have hN' : yo_N K c (c + d) := fun o a1 a2 a3 => by
      have z := hN o a1 (by omega) a3
      obtain ⟨r1, r2, r3, r4, r5⟩ := (W.2.2 o (by omega)).2.2.2.2.2.2.2.2.1 a3
      rcases Nat.eq_or_lt_of_le z with q | q
      · have : gm_e K (o + 1) = c + d := by omega
        rw [this] at r3
        exact absurd r3 k17
      · omega
    have nx' := fun t' gl' w' bl' bw' => nx d t' gl' w' bl' bw' (Nat.le_refl _) hN'
    have leaf : K (c + d) ≤ 3 → ∀ x, x = nu_n K O b_value tb nd ps sz (c + d) → ch_C K len (gm_e K c) (fun x => nu_n K O b_value tb nd ps sz x) (upd w t x) (t + 1) (c + d) := fun k3 x hx => by
      refine ch_push hx (by omega) (by omega) ?_
      rw [L.2.2.2.1 k3]
      exact h
    by_cases k15 : K (c + d) = 15
    · rw [k15]
      exact br_t (by decide) (nx' t gl w bl bw (ch_step W hj k15 h))
    refine br_f (fun z => k15 ((yw_knk W (k := 15) (by omega)).mp z)) ?_
    by_cases k3 : K (c + d) ≤ 3
    · refine br_t (nI_le (b := 3) k3 (by omega)) (br_f (nI_ge (b := 4) (by omega) (by omega)) (nm_r (nI_1 t) ?_))
      have ct : (nI t).toNatClampNeg = t := nI_clamp (by omega)
      rcases (show K (c + d) = 0 ∨ K (c + d) = 1 ∨ K (c + d) = 2 ∨ K (c + d) = 3 by omega) with k | k | k | k
      · rw [k]
        exact br_t (by decide) ⟨vp_in_nI (by omega) (by omega), yw_in32 (by omega), nm_r (e' := upd w t (O (c + d))) (by rw [ct, nI_clamp (by omega), (hk (c + d) hj).2]) (nx' _ _ _ _ _ (leaf k3 _ (nu_n0 k).symm))⟩
      · rw [k]
        exact br_f (by decide) (br_t (by decide) ⟨yw_in32 (by omega), nm_r (e' := upd w t ps) (by rw [ct]) (nx' _ _ _ _ _ (leaf k3 _ (nu_n1 k).symm))⟩)
      · rw [k]
        exact br_f (by decide) (br_f (by decide) (br_t (by decide) ⟨yw_in32 (by omega), nm_r (e' := upd w t sz) (by rw [ct]) (nx' _ _ _ _ _ (leaf k3 _ (nu_n2 k).symm))⟩))
      · rw [k]
        exact br_f (by decide) (br_f (by decide) (br_f (by decide) ⟨vp_in_nI (by omega) (by omega), yw_in32 (by omega), nm_r (e' := upd w t (b_value nd)) (by rw [ct, nI_clamp (by omega)]) (nx' _ _ _ _ _ (leaf k3 _ (nu_n3 k).symm))⟩))
    refine br_f (nI_ge (b := K (c + d)) (a := 3) (by omega) (by omega)) ?_
    by_cases k6 : K (c + d) ≤ 6
    · obtain ⟨p1, p2, p3⟩ := L.2.2.2.2.1 ⟨by omega, k6⟩
      refine br_f (nI_ge (b := 7) (by omega) (by omega)) ?_
      rw [show nI (y + (c + d)) + 1 = nI (y + (c + d + 1)) by rw [nI_1, Nat.add_assoc]]
      refine yw_path (b_waiting := w) W hy hk T hov TE hel p1 (by omega) (by omega) hnd fun gl' bl' bw' => nm_r (nI_1 t) (yw_told hn (by omega) ⟨yw_in32 (by omega), nm_r (e' := upd w t (tb (c + d) nd)) ?_ (nx' _ _ _ _ _ ?_)⟩)
      · rw [nI_clamp (by omega), (TE (c + d) hj nd hnd).2 ⟨by omega, k6⟩]
      · refine ch_push (nu_n6 (K := K) (c := c + d) (by omega) k6).symm (by omega) (by omega) ?_
        rw [p2]
        exact ch_path W (by omega) p1 h
    refine br_t (nI_le (a := 7) (by omega) (by omega)) (br_t (nI_le (a := 4) (by omega) (by omega)) ?_)
    by_cases kk : K (c + d) = 14
    · obtain ⟨p1, p2, p3⟩ := L.2.2.2.2.2.2.1 kk
      obtain ⟨s, rfl, ws, hs⟩ := ch_head (show c + d + 1 < gm_e K c by omega) p1 h
      rw [kk]
      refine br_t (by decide) ?_
      rw [nI_pred]
      refine ⟨yw_in32 (by omega), ?_⟩
      rw [nI_clamp (by omega)]
      have fin : ∀ x, x = nu_n K O b_value tb nd ps sz (c + d) → ch_C K len (gm_e K c) (fun x => nu_n K O b_value tb nd ps sz x) (upd w s x) (s + 1) (c + d) := fun x hx => ch_push hx (by omega) (by omega) (by rw [p2]; exact hs)
      have vv := nu_n14 (O := O) (V := b_value) (tb := tb) (nd := nd) (ps := ps) (sz := sz) W hj kk
      refine ⟨fun z => ⟨yw_in32 (by omega), nm_e (nx' _ _ _ _ _ (fin _ ?_))⟩, fun z => ⟨yw_in32 (by omega), nm_e (nx' _ _ _ _ _ (fin _ ?_))⟩⟩
      · rw [vv, if_pos (ws.symm.trans z)]
      · rw [vv, if_neg (fun q => z (ws.trans q))]
    · refine br_f (fun z => kk ((yw_knk W (k := 14) (by omega)).mp z)) ?_
      obtain ⟨p1, p2, p3, p4, p5⟩ := L.2.2.2.2.2.1 ⟨by omega, by omega⟩
      obtain ⟨s1, rfl, ws1, hs1⟩ := ch_head (show c + d + 1 < gm_e K c by omega) p1 h
      obtain ⟨s, rfl, ws, hs⟩ := ch_head (show gm_e K (c + d + 1) < gm_e K c by omega) p2 hs1
      refine nm_r (e' := nI (s + 1)) (pk_m1 (s + 1)) ⟨yw_in32 (by omega), ?_⟩
      rw [nI_pred]
      refine ⟨yw_in32 (by omega), ?_⟩
      rw [nI_clamp (by omega), nI_clamp (by omega)]
      refine yw_calc (by omega) (by omega) ⟨yw_in32 (by omega), nm_e (nx' _ _ _ _ _ (ch_push ?_ (by omega) (by omega) (by rw [p5]; exact hs)))⟩
      rw [ws1, ws, nu_n13 W hj (by omega) (by omega)]
theorem yw_outer {post : Int32 → SY → Prop} {K : Nat → Nat} {O : Nat → Int32} {len y c n nd : Nat} {tb : Nat → Nat → Int32} {ps sz : Int32} (W : gm_W K len) (hy : y + 30 ≤ 210) (hk : ys_k b_kind b_with y K O len) (T : tr_T b_parent n) (hov : ∀ x, x < len → K x = 15 → ∃ v, v < 72 ∧ O x = nI v)
    (TE : ∀ c, c < len → nu_TE K O b_value b_parent b_name len n tb c) (hc : c < len) (k14 : K c ≤ 14) (hnd : nd < n) (hno : ∀ x, c ≤ x → x < gm_e K c → K x ≤ 17) (hend : K (gm_e K c) ≠ 15 ∧ K (gm_e K c) ≠ 16)
    (hp : ∀ (gl : Int32) (wt bl bw : Nat → Int32), post (nu_n K O b_value tb nd ps sz c) (nI n, g_inner, g_rules, g_place, gl, g_depth, g_row, g_pc, g_node, g_position, g_size, g_fault, g_put, g_steps, b_name, b_parent, b_value, b_kind, b_with, b_count, b_bodyAt, b_priority, b_given, b_there, b_wanted, wt, bw, bl, b_left, b_reached, b_sizes, b_each, b_backRow, b_backPc, b_backNode, b_backPosition, b_backSize, b_output)) : wpY_outerNumber post (nI n, g_inner, g_rules, g_place, g_listed, g_depth, g_row, g_pc, g_node, g_position, g_size, g_fault, g_put, g_steps, b_name, b_parent, b_value, b_kind, b_with, b_count, b_bodyAt, b_priority, b_given, b_there, b_wanted, b_waiting, b_within, b_list, b_left, b_reached, b_sizes, b_each, b_backRow, b_backPc, b_backNode, b_backPosition, b_backSize, b_output) (nI (y + c)) (nI (y + gm_e K c)) (nI nd) ps sz := by
  have hlt := (W.2.2 c hc).1
  refine nm_r (e' := nI (y + c + (gm_e K c - c)) - 1) (by rw [show y + c + (gm_e K c - c) = y + gm_e K c by omega]) ⟨gm_e K c - c + 1, yw_outer_l W hy hk T hov TE hc k14 hnd hno hp (gm_e K c - c) _ 0 g_listed b_waiting b_list b_within (by omega) (by omega) (fun o a1 a2 a3 => ?_) ?_⟩
  · rw [show c + (gm_e K c - c) = gm_e K c by omega] at a2 ⊢
    exact (W.2.2 c hc).2.2.1 o a1 a2
  · rw [show c + (gm_e K c - c) = gm_e K c by omega]
    exact ch_pr_self hend.1 hend.2
end
section
/-! the class: the grammar -/
variable {f_nodeCount f_innermost f_draftLength f_rulesGiven f_wrongToken f_wantedCount f_inCondition f_depth f_cursor f_outcome f_outputCount f_stepsTaken : Int32} {a_names a_values a_parents a_kinds a_operands a_priorities a_givenAt a_wanted a_axes a_passing a_ends a_openers a_table a_results a_matched a_listLeft a_listNode a_listPosition a_listSize a_listBody a_listReturn a_outputs : Nat → Int32}
/-- where a text is wrong, if it is -/
def gm_run (K : Nat → Nat) : Nat → Nat → List Nat → Option Nat
  | 0, i, s => if (∀ w, w ∈ s → w = 0 ∨ w = 4 ∨ w = 7) then none else some i
  | d + 1, i, s => match gm_st (K i) s with
    | none => some i
    | some s' => gm_run K d (i + 1) s'
theorem gm_run_n {K : Nat → Nat} : ∀ d i s, gm_run K d i s = none → gm_ac K d i s
  | 0, i, s, h => by
    rw [gm_run] at h
    by_cases z : ∀ w, w ∈ s → w = 0 ∨ w = 4 ∨ w = 7
    · exact z
    · rw [if_neg z] at h; exact nomatch h
  | d + 1, i, s, h => by
    rw [gm_run] at h
    cases e : gm_st (K i) s with
    | none => rw [e] at h; exact nomatch h
    | some s' =>
      rw [e] at h
      exact ⟨s', e, gm_run_n d (i + 1) s' h⟩
theorem xg_want {post : SX → Prop} {k v : Nat} (hk : k < 128) (hp : post (f_nodeCount, f_innermost, f_draftLength, f_rulesGiven, f_wrongToken, nI (k + 1), f_inCondition, f_depth, f_cursor, f_outcome, f_outputCount, f_stepsTaken, a_names, a_values, a_parents, a_kinds, a_operands, a_priorities, a_givenAt, upd a_wanted k (nI v), a_axes, a_passing, a_ends, a_openers, a_table, a_results, a_matched, a_listLeft, a_listNode, a_listPosition, a_listSize, a_listBody, a_listReturn, a_outputs)) : wpX_want post (f_nodeCount, f_innermost, f_draftLength, f_rulesGiven, f_wrongToken, nI k, f_inCondition, f_depth, f_cursor, f_outcome, f_outputCount, f_stepsTaken, a_names, a_values, a_parents, a_kinds, a_operands, a_priorities, a_givenAt, a_wanted, a_axes, a_passing, a_ends, a_openers, a_table, a_results, a_matched, a_listLeft, a_listNode, a_listPosition, a_listSize, a_listBody, a_listReturn, a_outputs) (nI v) :=
  br_f (nI_ge (b := 128) hk (by decide)) ⟨vp_in_nI hk (by omega), nm_r (e' := upd a_wanted k (nI v)) (by rw [nI_clamp (by omega)]) (nm_r (nI_1 k) hp)⟩
theorem xg_wl {post : SX → Prop} {l : List Nat} {v : Nat} (hl : l.length < 128) (h : sk a_wanted l) (hp : ∀ w, sk w (v :: l) → post (f_nodeCount, f_innermost, f_draftLength, f_rulesGiven, f_wrongToken, nI (v :: l).length, f_inCondition, f_depth, f_cursor, f_outcome, f_outputCount, f_stepsTaken, a_names, a_values, a_parents, a_kinds, a_operands, a_priorities, a_givenAt, w, a_axes, a_passing, a_ends, a_openers, a_table, a_results, a_matched, a_listLeft, a_listNode, a_listPosition, a_listSize, a_listBody, a_listReturn, a_outputs)) : wpX_want post (f_nodeCount, f_innermost, f_draftLength, f_rulesGiven, f_wrongToken, nI l.length, f_inCondition, f_depth, f_cursor, f_outcome, f_outputCount, f_stepsTaken, a_names, a_values, a_parents, a_kinds, a_operands, a_priorities, a_givenAt, a_wanted, a_axes, a_passing, a_ends, a_openers, a_table, a_results, a_matched, a_listLeft, a_listNode, a_listPosition, a_listSize, a_listBody, a_listReturn, a_outputs) (nI v) :=
  xg_want hl (hp _ (sk_p h))
def xg_N (t : Nat) (l : List Nat) : List Nat := if t ≤ 3 then l else if t ≤ 6 then 1 :: l else if t ≤ 13 then 0 :: 0 :: l else 0 :: l
theorem xg_number {post : Int32 → SX → Prop} {l : List Nat} {t : Nat} (ht : t ≤ 14) (hl : l.length < 124) (h : sk a_wanted l) (hp : ∀ w, sk w (xg_N t l) → post 1 (f_nodeCount, f_innermost, f_draftLength, f_rulesGiven, f_wrongToken, nI (xg_N t l).length, f_inCondition, f_depth, f_cursor, f_outcome, f_outputCount, f_stepsTaken, a_names, a_values, a_parents, a_kinds, a_operands, a_priorities, a_givenAt, w, a_axes, a_passing, a_ends, a_openers, a_table, a_results, a_matched, a_listLeft, a_listNode, a_listPosition, a_listSize, a_listBody, a_listReturn, a_outputs)) : wpX_takesNumber post (f_nodeCount, f_innermost, f_draftLength, f_rulesGiven, f_wrongToken, nI l.length, f_inCondition, f_depth, f_cursor, f_outcome, f_outputCount, f_stepsTaken, a_names, a_values, a_parents, a_kinds, a_operands, a_priorities, a_givenAt, a_wanted, a_axes, a_passing, a_ends, a_openers, a_table, a_results, a_matched, a_listLeft, a_listNode, a_listPosition, a_listSize, a_listBody, a_listReturn, a_outputs) (nI t) := by
  refine br_f (nI_pos (by omega)) (br_t (nI_le (b := 14) ht (by omega)) ?_)
  by_cases h3 : t ≤ 3
  · rw [xg_N, if_pos h3] at hp
    exact br_t (nI_lt (b := 4) (by omega) (by omega)) (br_t (nI_lt (b := 7) (by omega) (by omega)) (hp _ h))
  refine br_f (nI_nlt (b := 4) (by omega) (by omega)) ?_
  by_cases h6 : t ≤ 6
  · rw [xg_N, if_neg h3, if_pos h6] at hp
    exact br_f (nI_nlt (a := 6) (by omega) (by omega)) (xg_wl (v := 1) (by omega) h hp)
  refine br_t (nI_lt (a := 6) (by omega) (by omega)) (br_f (nI_nlt (b := 7) (by omega) (by omega)) (xg_wl (v := 0) (by omega) h fun w hw => ?_))
  by_cases h13 : t ≤ 13
  · rw [xg_N, if_neg h3, if_neg h6, if_pos h13] at hp
    refine br_f (fun z => ?_) (xg_wl (l := 0 :: l) (v := 0) (by simp; omega) hw hp)
    have := (nI_eq (b := 14) (by omega) (by omega)).mp z
    omega
  · rw [xg_N, if_neg h3, if_neg h6, if_neg h13] at hp
    have e : t = 14 := by omega
    subst e
    exact br_t (by decide) (hp w hw)
theorem xg_numberF {post : Int32 → SX → Prop} {t : Nat} (ht : 14 < t) (h100 : t < 100) (hp : post 0 (f_nodeCount, f_innermost, f_draftLength, f_rulesGiven, f_wrongToken, f_wantedCount, f_inCondition, f_depth, f_cursor, f_outcome, f_outputCount, f_stepsTaken, a_names, a_values, a_parents, a_kinds, a_operands, a_priorities, a_givenAt, a_wanted, a_axes, a_passing, a_ends, a_openers, a_table, a_results, a_matched, a_listLeft, a_listNode, a_listPosition, a_listSize, a_listBody, a_listReturn, a_outputs)) : wpX_takesNumber post (f_nodeCount, f_innermost, f_draftLength, f_rulesGiven, f_wrongToken, f_wantedCount, f_inCondition, f_depth, f_cursor, f_outcome, f_outputCount, f_stepsTaken, a_names, a_values, a_parents, a_kinds, a_operands, a_priorities, a_givenAt, a_wanted, a_axes, a_passing, a_ends, a_openers, a_table, a_results, a_matched, a_listLeft, a_listNode, a_listPosition, a_listSize, a_listBody, a_listReturn, a_outputs) (nI t) :=
  br_f (nI_pos (by omega)) (br_f (nI_ge (a := 14) ht (by omega)) hp)
theorem xg_step {post : Int32 → SX → Prop} {l : List Nat} (hl : l.length < 124) (h : sk a_wanted l) (hp : ∀ w, sk w (2 :: l) → post 1 (f_nodeCount, f_innermost, f_draftLength, f_rulesGiven, f_wrongToken, nI (2 :: l).length, f_inCondition, f_depth, f_cursor, f_outcome, f_outputCount, f_stepsTaken, a_names, a_values, a_parents, a_kinds, a_operands, a_priorities, a_givenAt, w, a_axes, a_passing, a_ends, a_openers, a_table, a_results, a_matched, a_listLeft, a_listNode, a_listPosition, a_listSize, a_listBody, a_listReturn, a_outputs)) : wpX_takesStep post (f_nodeCount, f_innermost, f_draftLength, f_rulesGiven, f_wrongToken, nI l.length, f_inCondition, f_depth, f_cursor, f_outcome, f_outputCount, f_stepsTaken, a_names, a_values, a_parents, a_kinds, a_operands, a_priorities, a_givenAt, a_wanted, a_axes, a_passing, a_ends, a_openers, a_table, a_results, a_matched, a_listLeft, a_listNode, a_listPosition, a_listSize, a_listBody, a_listReturn, a_outputs) (nI 15) :=
  br_t (by decide) (xg_wl (v := 2) (by omega) h hp)
theorem xg_stepF {post : Int32 → SX → Prop} {t : Nat} (ht : t ≠ 15) (h100 : t < 100) (hp : post 0 (f_nodeCount, f_innermost, f_draftLength, f_rulesGiven, f_wrongToken, f_wantedCount, f_inCondition, f_depth, f_cursor, f_outcome, f_outputCount, f_stepsTaken, a_names, a_values, a_parents, a_kinds, a_operands, a_priorities, a_givenAt, a_wanted, a_axes, a_passing, a_ends, a_openers, a_table, a_results, a_matched, a_listLeft, a_listNode, a_listPosition, a_listSize, a_listBody, a_listReturn, a_outputs)) : wpX_takesStep post (f_nodeCount, f_innermost, f_draftLength, f_rulesGiven, f_wrongToken, f_wantedCount, f_inCondition, f_depth, f_cursor, f_outcome, f_outputCount, f_stepsTaken, a_names, a_values, a_parents, a_kinds, a_operands, a_priorities, a_givenAt, a_wanted, a_axes, a_passing, a_ends, a_openers, a_table, a_results, a_matched, a_listLeft, a_listNode, a_listPosition, a_listSize, a_listBody, a_listReturn, a_outputs) (nI t) :=
  br_f (fun z => ht ((nI_eq (b := 15) (by omega) (by omega)).mp z)) hp
def xg_B (t : Nat) (l : List Nat) : List Nat := if t = 20 then 4 :: l else if t = 21 then 4 :: 5 :: 4 :: l else if t = 22 then 0 :: 4 :: l else if t = 23 then 1 :: 4 :: l else if t = 24 then 0 :: 4 :: 5 :: 4 :: l else 1 :: 4 :: 5 :: 4 :: l
theorem xg_body {post : Int32 → SX → Prop} {l : List Nat} {t : Nat} (h1 : 20 ≤ t) (h2 : t ≤ 25) (hl : l.length < 124) (h : sk a_wanted l) (hp : ∀ w, sk w (xg_B t l) → post 1 (f_nodeCount, f_innermost, f_draftLength, f_rulesGiven, f_wrongToken, nI (xg_B t l).length, f_inCondition, f_depth, f_cursor, f_outcome, f_outputCount, f_stepsTaken, a_names, a_values, a_parents, a_kinds, a_operands, a_priorities, a_givenAt, w, a_axes, a_passing, a_ends, a_openers, a_table, a_results, a_matched, a_listLeft, a_listNode, a_listPosition, a_listSize, a_listBody, a_listReturn, a_outputs)) : wpX_takesBody post (f_nodeCount, f_innermost, f_draftLength, f_rulesGiven, f_wrongToken, nI l.length, f_inCondition, f_depth, f_cursor, f_outcome, f_outputCount, f_stepsTaken, a_names, a_values, a_parents, a_kinds, a_operands, a_priorities, a_givenAt, a_wanted, a_axes, a_passing, a_ends, a_openers, a_table, a_results, a_matched, a_listLeft, a_listNode, a_listPosition, a_listSize, a_listBody, a_listReturn, a_outputs) (nI t) := by
  refine br_f (nI_nlt (b := 20) h1 (by omega)) (br_t (nI_lt (b := 26) (by omega) (by omega)) (xg_wl (v := 4) (by omega) h fun w hw => ?_))
  have l4 : (4 :: l).length < 125 := by simp; omega
  rcases (show t = 20 ∨ t = 21 ∨ t = 22 ∨ t = 23 ∨ t = 24 ∨ t = 25 by omega) with rfl | rfl | rfl | rfl | rfl | rfl
  · exact br_f (by decide) (br_f (by decide) (br_f (by decide) (br_f (by decide) (br_f (by decide) (br_f (by decide) (br_f (by decide) (hp w hw)))))))
  · refine br_t (by decide) (xg_wl (l := 4 :: l) (v := 5) (by omega) hw fun w hw => xg_wl (l := 5 :: 4 :: l) (v := 4) (by simp; omega) hw fun w hw => ?_)
    exact br_f (by decide) (br_f (by decide) (br_f (by decide) (br_f (by decide) (hp w hw))))
  · exact br_f (by decide) (br_f (by decide) (br_f (by decide) (br_t (by decide) (xg_wl (l := 4 :: l) (v := 0) (by omega) hw hp))))
  · exact br_f (by decide) (br_f (by decide) (br_f (by decide) (br_f (by decide) (br_f (by decide) (br_t (by decide) (xg_wl (l := 4 :: l) (v := 1) (by omega) hw hp))))))
  · refine br_f (by decide) (br_t (by decide) (xg_wl (l := 4 :: l) (v := 5) (by omega) hw fun w hw => xg_wl (l := 5 :: 4 :: l) (v := 4) (by simp; omega) hw fun w hw => ?_))
    exact br_f (by decide) (br_t (by decide) (xg_wl (l := 4 :: 5 :: 4 :: l) (v := 0) (by simp; omega) hw hp))
  · refine br_f (by decide) (br_f (by decide) (br_t (by decide) (xg_wl (l := 4 :: l) (v := 5) (by omega) hw fun w hw => xg_wl (l := 5 :: 4 :: l) (v := 4) (by simp; omega) hw fun w hw => ?_)))
    exact br_f (by decide) (br_f (by decide) (br_f (by decide) (br_t (by decide) (xg_wl (l := 4 :: 5 :: 4 :: l) (v := 1) (by simp; omega) hw hp))))
theorem xg_bodyF {post : Int32 → SX → Prop} {t : Nat} (h : t < 20 ∨ 26 ≤ t) (h100 : t < 100) (hp : post 0 (f_nodeCount, f_innermost, f_draftLength, f_rulesGiven, f_wrongToken, f_wantedCount, f_inCondition, f_depth, f_cursor, f_outcome, f_outputCount, f_stepsTaken, a_names, a_values, a_parents, a_kinds, a_operands, a_priorities, a_givenAt, a_wanted, a_axes, a_passing, a_ends, a_openers, a_table, a_results, a_matched, a_listLeft, a_listNode, a_listPosition, a_listSize, a_listBody, a_listReturn, a_outputs)) : wpX_takesBody post (f_nodeCount, f_innermost, f_draftLength, f_rulesGiven, f_wrongToken, f_wantedCount, f_inCondition, f_depth, f_cursor, f_outcome, f_outputCount, f_stepsTaken, a_names, a_values, a_parents, a_kinds, a_operands, a_priorities, a_givenAt, a_wanted, a_axes, a_passing, a_ends, a_openers, a_table, a_results, a_matched, a_listLeft, a_listNode, a_listPosition, a_listSize, a_listBody, a_listReturn, a_outputs) (nI t) := by
  by_cases h1 : t < 20
  · exact br_t (nI_lt (b := 20) h1 (by omega)) hp
  · exact br_f (nI_nlt (b := 20) (by omega) (by omega)) (br_f (nI_nlt (b := 26) (by omega) (by omega)) hp)
theorem xg_top {x : Nat} {l : List Nat} {w : Nat → Int32} (h : sk w (x :: l)) (hl : l.length < 128) : w (nI (x :: l).length - 1).toNatClampNeg = nI x := by
  rw [List.length_cons, nI_pred, nI_clamp (by omega)]; exact h.1
theorem xg_takes_l {post : Int32 → SX → Prop} {t : Nat} (ht : t < 100) {z : Bool} {b : List Nat} (hb : (z = true ∧ b = []) ∨ (z = false ∧ b = [6])) :
    ∀ (s : List Nat) (c : Bool) (k f : Nat) (w : Nat → Int32), sk_ok z c s → sk w (sk_fl b s) → k + (sk_fl b s).length < 128 → (sk_fl b s).length < 125 → (sk_fl b s).length < f →
      (gm_st t s = none → ∀ (wc ic : Int32) (w' : Nat → Int32), post 0 (f_nodeCount, f_innermost, f_draftLength, f_rulesGiven, f_wrongToken, wc, ic, f_depth, f_cursor, f_outcome, f_outputCount, f_stepsTaken, a_names, a_values, a_parents, a_kinds, a_operands, a_priorities, a_givenAt, w', a_axes, a_passing, a_ends, a_openers, a_table, a_results, a_matched, a_listLeft, a_listNode, a_listPosition, a_listSize, a_listBody, a_listReturn, a_outputs)) →
      (∀ s', gm_st t s = some s' → ∀ (c' : Bool) (w' : Nat → Int32), sk_ok z c' s' → sk w' (sk_fl b s') → post 1 (f_nodeCount, f_innermost, f_draftLength, f_rulesGiven, f_wrongToken, nI (sk_fl b s').length, ys_b c', f_depth, f_cursor, f_outcome, f_outputCount, f_stepsTaken, a_names, a_values, a_parents, a_kinds, a_operands, a_priorities, a_givenAt, w', a_axes, a_passing, a_ends, a_openers, a_table, a_results, a_matched, a_listLeft, a_listNode, a_listPosition, a_listSize, a_listBody, a_listReturn, a_outputs)) →
      wX_takes_2 post (nI t) f (nI k) f_nodeCount f_innermost f_draftLength f_rulesGiven f_wrongToken (nI (sk_fl b s).length) (ys_b c) f_depth f_cursor f_outcome f_outputCount f_stepsTaken a_names a_values a_parents a_kinds a_operands a_priorities a_givenAt w a_axes a_passing a_ends a_openers a_table a_results a_matched a_listLeft a_listNode a_listPosition a_listSize a_listBody a_listReturn a_outputs := by
  have empty : ∀ (c : Int32) (k f : Nat) (w : Nat → Int32), k < 128 → (∀ (wc ic : Int32) (w' : Nat → Int32), post 0 (f_nodeCount, f_innermost, f_draftLength, f_rulesGiven, f_wrongToken, wc, ic, f_depth, f_cursor, f_outcome, f_outputCount, f_stepsTaken, a_names, a_values, a_parents, a_kinds, a_operands, a_priorities, a_givenAt, w', a_axes, a_passing, a_ends, a_openers, a_table, a_results, a_matched, a_listLeft, a_listNode, a_listPosition, a_listSize, a_listBody, a_listReturn, a_outputs)) → wX_takes_2 post (nI t) (f + 1) (nI k) f_nodeCount f_innermost f_draftLength f_rulesGiven f_wrongToken (nI 0) c f_depth f_cursor f_outcome f_outputCount f_stepsTaken a_names a_values a_parents a_kinds a_operands a_priorities a_givenAt w a_axes a_passing a_ends a_openers a_table a_results a_matched a_listLeft a_listNode a_listPosition a_listSize a_listBody a_listReturn a_outputs := fun c k f w hk hp =>
    br_f (nI_ge (b := 128) hk (by decide)) (br_t (by decide) (hp _ _ _))
  intro s
  induction s with
  | nil =>
    intro c k f w hok hw hk hl hf h0 h1
    obtain ⟨f, rfl⟩ : ∃ x, f = x + 1 := ⟨f - 1, by omega⟩
    have hn := h0 rfl
    rcases hb with ⟨_, rfl⟩ | ⟨_, rfl⟩
    · exact empty _ k f w (by omega) hn
    · have hk' : k + 1 < 128 := hk
      have hf' : 1 < f + 1 := hf
      obtain ⟨f, rfl⟩ : ∃ x, f = x + 1 := ⟨f - 1, by omega⟩
      refine br_f (nI_ge (b := 128) (by omega) (by decide)) (br_f (by decide) (nm_r (e' := nI 0) (nI_pred 0) ⟨vp_in_nI (by omega) (by omega), nm_r (e' := nI 6) (by rw [nI_clamp (by omega)]; exact hw.1) ?_⟩))
      exact br_f (by decide) (br_f (by decide) (br_f (by decide) (br_f (by decide) (br_f (by decide) (br_f (by decide) (nm_r (nI_1 k) (empty _ (k + 1) f w (by omega) hn)))))))
  | cons a s ih =>
    intro c k f w hok hw hk hl hf h0 h1
    obtain ⟨f, rfl⟩ : ∃ x, f = x + 1 := ⟨f - 1, by omega⟩
    have shape : (c = false ∧ ((a = 0 ∧ s = [] ∧ z = true) ∨ (1 ≤ a ∧ a ≤ 4 ∧ sk_out z s))) ∨ (c = true ∧ ((a = 8 ∧ sk_out z s) ∨ (5 ≤ a ∧ a ≤ 7 ∧ sk_in z s))) := by
      cases c
      · exact Or.inl ⟨rfl, hok⟩
      · exact Or.inr ⟨rfl, hok⟩
    have okst : ∀ s', gm_st t (a :: s) = some s' → ∃ c', sk_ok z c' s' := fun s' e => ⟨_, (sk_st hok e).choose_spec.1⟩
    have start : ∀ (x : Nat) (l : List Nat), sk_fl b (a :: s) = x :: l → l.length < 124 ∧ sk w l ∧ w l.length = nI x := fun x l e => by
      rw [e] at hw hl
      have hl' : l.length + 1 < 125 := hl
      exact ⟨by omega, hw.2, hw.1⟩
    rcases shape with ⟨rfl, ⟨rfl, rfl, hz⟩ | ⟨a1, a4, hs⟩⟩ | ⟨rfl, ⟨rfl, hs⟩ | ⟨a5, a7, hs⟩⟩
    · -- a body at the bottom
      rcases hb with ⟨_, rfl⟩ | ⟨q, _⟩
      · have e : sk_fl [] [0] = [4] := rfl
        obtain ⟨g1, g2, g3⟩ := start 4 [] e
        rw [gm_stB _ _ _ (by omega)] at h0 h1
        rw [e] at hk hf ⊢
        have hk' : k + 1 < 128 := hk
        have hf' : 1 < f + 1 := hf
        obtain ⟨f, rfl⟩ : ∃ x, f = x + 1 := ⟨f - 1, by omega⟩
        refine br_f (nI_ge (b := 128) (by omega) (by decide)) (br_f (by decide) (nm_r (e' := nI 0) (nI_pred 0) ⟨vp_in_nI (by omega) (by omega), nm_r (e' := nI 4) (by rw [nI_clamp (by omega)]; exact g3) ?_⟩))
        refine br_f (by decide) (br_f (by decide) (br_f (by decide) (br_f (by decide) (br_f (by decide) (br_t (by decide) ?_)))))
        by_cases hB : 20 ≤ t ∧ t ≤ 25
        · refine xg_body (l := []) (a_wanted := w) hB.1 hB.2 (by decide) trivial fun w' hw' => br_f (by decide) ?_
          have ok0 : ∀ s', sk_out z s' → sk_ok z false s' := fun _ q => q
          rcases (show t = 20 ∨ t = 21 ∨ t = 22 ∨ t = 23 ∨ t = 24 ∨ t = 25 by omega) with rfl | rfl | rfl | rfl | rfl | rfl
          · exact h1 _ rfl false w' (ok0 _ (by simp [sk_out, hz])) hw'
          · exact h1 _ rfl false w' (ok0 _ (by simp [sk_out, hz])) hw'
          · exact h1 _ rfl false w' (ok0 _ (by simp [sk_out, hz])) hw'
          · exact h1 _ rfl false w' (ok0 _ (by simp [sk_out, hz])) hw'
          · exact h1 _ rfl false w' (ok0 _ (by simp [sk_out, hz])) hw'
          · exact h1 _ rfl false w' (ok0 _ (by simp [sk_out, hz])) hw'
        · refine xg_bodyF (by omega) ht (br_t rfl (nm_r (nI_1 k) (empty _ (k + 1) f w (by omega) (h0 ?_))))
          rw [if_neg (by omega), if_neg (by omega), if_neg (by omega), if_neg (by omega), if_neg (by omega), if_neg (by omega), if_neg (by omega)]
      · rw [hz] at q; exact nomatch q
    · rcases (show a = 1 ∨ a = 2 ∨ a = 3 ∨ a = 4 by omega) with rfl | rfl | rfl | rfl
      · -- a body that an END ends
        have e : sk_fl b (1 :: s) = 4 :: 5 :: sk_fl b s := rfl
        obtain ⟨g1, g2, g3⟩ := start 4 (5 :: sk_fl b s) e
        rw [e] at hk hf ⊢
        have hk' : k + ((5 :: sk_fl b s).length + 1) < 128 := hk
        have hf' : (5 :: sk_fl b s).length + 1 < f + 1 := hf
        have g1' : (sk_fl b s).length + 1 < 124 := g1
        have hk2 : k + ((sk_fl b s).length + 2) < 128 := hk'
        have hf2 : (sk_fl b s).length + 2 < f + 1 := hf'
        rw [gm_stB _ _ _ (by omega)] at h0 h1
        refine br_f (nI_ge (b := 128) (by omega) (by decide)) (br_f (nI_nle (n := ((sk_fl b s).length + 1) + 1) (by omega) (by omega)) (nm_r (e' := nI ((sk_fl b s).length + 1)) (nI_pred _) ⟨vp_in_nI (by omega) (by omega), nm_r (e' := nI 4) (by rw [nI_clamp (by omega)]; exact g3) ?_⟩))
        refine br_f (by decide) (br_f (by decide) (br_f (by decide) (br_f (by decide) (br_f (by decide) (br_t (by decide) ?_)))))
        by_cases hB : 20 ≤ t ∧ t ≤ 25
        · refine xg_body (l := 5 :: sk_fl b s) (a_wanted := w) hB.1 hB.2 (by omega) g2 fun w' hw' => br_f (by decide) ?_
          rcases (show t = 20 ∨ t = 21 ∨ t = 22 ∨ t = 23 ∨ t = 24 ∨ t = 25 by omega) with rfl | rfl | rfl | rfl | rfl | rfl
          · exact h1 _ rfl false w' (by simp [sk_ok, sk_out, hs]) hw'
          · exact h1 _ rfl false w' (by simp [sk_ok, sk_out, hs]) hw'
          · exact h1 _ rfl false w' (by simp [sk_ok, sk_out, hs]) hw'
          · exact h1 _ rfl false w' (by simp [sk_ok, sk_out, hs]) hw'
          · exact h1 _ rfl false w' (by simp [sk_ok, sk_out, hs]) hw'
          · exact h1 _ rfl false w' (by simp [sk_ok, sk_out, hs]) hw'
        · refine xg_bodyF (by omega) ht (br_t rfl (nm_r (nI_1 k) ?_))
          obtain ⟨f, rfl⟩ : ∃ x, f = x + 1 := ⟨f - 1, by omega⟩
          have g3 : w (sk_fl b s).length = nI 5 := g2.1
          refine br_f (nI_ge (b := 128) (by omega) (by decide)) (br_f (nI_nle (n := (sk_fl b s).length + 1) (by omega) (by omega)) (nm_r (e' := nI (sk_fl b s).length) (nI_pred _) ⟨vp_in_nI (by omega) (by omega), nm_r (e' := nI 5) (by rw [nI_clamp (by omega)]; exact g3) ?_⟩))
          refine br_f (by decide) (br_f (by decide) (br_f (by decide) (br_t (by decide) ?_)))
          rw [if_neg (by omega), if_neg (by omega), if_neg (by omega), if_neg (by omega), if_neg (by omega), if_neg (by omega)] at h0
          refine pk_eq t 26 (fun q => ?_) (fun q => h0 (if_neg (fun y => q y.1)) _ _ _)
          subst q
          exact h1 s rfl false w hs g2.2
      · -- a number is wanted
        have e : sk_fl b (2 :: s) = 0 :: sk_fl b s := rfl
        obtain ⟨g1, g2, g3⟩ := start 0 (sk_fl b s) e
        rw [e] at hk hf ⊢
        have hk' : k + ((sk_fl b s).length + 1) < 128 := hk
        have hf' : (sk_fl b s).length + 1 < f + 1 := hf
        rw [gm_stN _ _ _ (by omega)] at h0 h1
        refine br_f (nI_ge (b := 128) (by omega) (by decide)) (br_f (nI_nle (n := (sk_fl b s).length + 1) (by omega) (by omega)) (nm_r (e' := nI (sk_fl b s).length) (nI_pred _) ⟨vp_in_nI (by omega) (by omega), nm_r (e' := nI 0) (by rw [nI_clamp (by omega)]; exact g3) ?_⟩))
        refine br_t (by decide) ?_
        by_cases h14 : t ≤ 14
        · refine xg_number (a_wanted := w) h14 (by omega) g2 fun w' hw' => ⟨rfl, ?_⟩
          unfold xg_N at hw' ⊢
          by_cases h3 : t ≤ 3
          · rw [if_pos h3] at hw' ⊢
            exact h1 s (if_pos h3) false w' hs hw'
          rw [if_neg h3] at hw' ⊢
          by_cases h6 : t ≤ 6
          · rw [if_pos h6] at hw' ⊢
            exact h1 (3 :: s) (by rw [if_neg h3, if_pos h6]) false w' (by simp [sk_ok, sk_out, hs]) hw'
          rw [if_neg h6] at hw' ⊢
          by_cases h13 : t ≤ 13
          · rw [if_pos h13] at hw' ⊢
            exact h1 (2 :: 2 :: s) (by rw [if_neg h3, if_neg h6, if_pos h13]) false w' (by simp [sk_ok, sk_out, hs]) hw'
          · rw [if_neg h13] at hw' ⊢
            exact h1 (2 :: s) (by rw [if_neg h3, if_neg h6, if_neg h13, if_pos (by omega)]) false w' (by simp [sk_ok, sk_out, hs]) hw'
        · refine xg_numberF (by omega) ht ⟨rfl, h0 ?_ _ _ _⟩
          rw [if_neg (by omega), if_neg (by omega), if_neg (by omega), if_neg (by omega)]
      · -- a path is wanted
        have e : sk_fl b (3 :: s) = 1 :: sk_fl b s := rfl
        obtain ⟨g1, g2, g3⟩ := start 1 (sk_fl b s) e
        rw [e] at hk hf ⊢
        have hk' : k + ((sk_fl b s).length + 1) < 128 := hk
        have hf' : (sk_fl b s).length + 1 < f + 1 := hf
        rw [gm_stP _ _ _ (by omega)] at h0 h1
        refine br_f (nI_ge (b := 128) (by omega) (by decide)) (br_f (nI_nle (n := (sk_fl b s).length + 1) (by omega) (by omega)) (nm_r (e' := nI (sk_fl b s).length) (nI_pred _) ⟨vp_in_nI (by omega) (by omega), nm_r (e' := nI 1) (by rw [nI_clamp (by omega)]; exact g3) ?_⟩))
        refine br_f (by decide) (br_t (by decide) ?_)
        by_cases h15 : t = 15
        · subst h15
          exact xg_step (a_wanted := w) (by omega) g2 fun w' hw' => ⟨rfl, h1 (4 :: s) (if_pos rfl) false w' (by simp [sk_ok, sk_out, hs]) hw'⟩
        · exact xg_stepF h15 ht ⟨rfl, h0 (if_neg h15) _ _ _⟩
      · -- more of a path may come
        have e : sk_fl b (4 :: s) = 2 :: sk_fl b s := rfl
        obtain ⟨g1, g2, g3⟩ := start 2 (sk_fl b s) e
        rw [e] at hk hf ⊢
        have hk' : k + ((sk_fl b s).length + 1) < 128 := hk
        have hf' : (sk_fl b s).length + 1 < f + 1 := hf
        rw [gm_st4] at h0 h1
        refine br_f (nI_ge (b := 128) (by omega) (by decide)) (br_f (nI_nle (n := (sk_fl b s).length + 1) (by omega) (by omega)) (nm_r (e' := nI (sk_fl b s).length) (nI_pred _) ⟨vp_in_nI (by omega) (by omega), nm_r (e' := nI 2) (by rw [nI_clamp (by omega)]; exact g3) ?_⟩))
        refine br_f (by decide) (br_f (by decide) (br_f (by decide) (br_f (by decide) (br_t (by decide) ?_))))
        by_cases h16 : t = 16
        · subst h16
          refine br_t (by decide) (br_t (by decide) (xg_wl (v := 2) (by omega) g2 fun w1 hw1 => xg_wl (l := 2 :: sk_fl b s) (v := 3) (by simp; omega) hw1 fun w2 hw2 => xg_wl (l := 3 :: 2 :: sk_fl b s) (v := 0) (by simp; omega) hw2 fun w3 hw3 => br_f (by decide) ?_))
          exact h1 (5 :: 8 :: 4 :: s) rfl true w3 (by simp [sk_ok, sk_in, sk_out, hs]) hw3
        have m35 : ∀ {P : Int32 → SX → Prop} {w : Nat → Int32}, wX_takesMorePath_35 P (nI t) f_nodeCount f_innermost f_draftLength f_rulesGiven f_wrongToken (nI (sk_fl b s).length) (ys_b false) f_depth f_cursor f_outcome f_outputCount f_stepsTaken a_names a_values a_parents a_kinds a_operands a_priorities a_givenAt w a_axes a_passing a_ends a_openers a_table a_results a_matched a_listLeft a_listNode a_listPosition a_listSize a_listBody a_listReturn a_outputs → wpX_takesMorePath P (f_nodeCount, f_innermost, f_draftLength, f_rulesGiven, f_wrongToken, nI (sk_fl b s).length, ys_b false, f_depth, f_cursor, f_outcome, f_outputCount, f_stepsTaken, a_names, a_values, a_parents, a_kinds, a_operands, a_priorities, a_givenAt, w, a_axes, a_passing, a_ends, a_openers, a_table, a_results, a_matched, a_listLeft, a_listNode, a_listPosition, a_listSize, a_listBody, a_listReturn, a_outputs) (nI t) := fun h => br_f (fun q => h16 ((nI_eq (b := 16) (by omega) (by omega)).mp q)) h
        refine m35 ?_
        by_cases h15 : t = 15
        · subst h15
          exact xg_step (a_wanted := w) (by omega) g2 fun w' hw' => ⟨rfl, br_f (by decide) (h1 (4 :: s) (if_pos rfl) false w' (by simp [sk_ok, sk_out, hs]) hw')⟩
        · refine xg_stepF h15 ht ⟨rfl, br_t rfl (br_f (by decide) (nm_r (nI_1 k) (ih false (k + 1) f w hs g2 (by omega) (by omega) (by omega) (fun q => h0 ?_) (fun s' q => h1 s' ?_))))⟩
          · rw [if_neg h15, if_neg h16]; exact q
          · rw [if_neg h15, if_neg h16]; exact q
    · -- a closing bracket
      have e : sk_fl b (8 :: s) = 3 :: sk_fl b s := rfl
      obtain ⟨g1, g2, g3⟩ := start 3 (sk_fl b s) e
      rw [e] at hk hf ⊢
      have hk' : k + ((sk_fl b s).length + 1) < 128 := hk
      have hf' : (sk_fl b s).length + 1 < f + 1 := hf
      rw [gm_st8] at h0 h1
      refine br_f (nI_ge (b := 128) (by omega) (by decide)) (br_f (nI_nle (n := (sk_fl b s).length + 1) (by omega) (by omega)) (nm_r (e' := nI (sk_fl b s).length) (nI_pred _) ⟨vp_in_nI (by omega) (by omega), nm_r (e' := nI 3) (by rw [nI_clamp (by omega)]; exact g3) ?_⟩))
      refine br_f (by decide) (br_f (by decide) (br_t (by decide) (pk_eq t 17 (fun q => ?_) (fun q => h0 (if_neg q) _ _ _))))
      subst q
      exact h1 s rfl false w hs g2
    · rcases (show a = 5 ∨ a = 6 ∨ a = 7 by omega) with rfl | rfl | rfl
      · -- a number is wanted
        have e : sk_fl b (5 :: s) = 0 :: sk_fl b s := rfl
        obtain ⟨g1, g2, g3⟩ := start 0 (sk_fl b s) e
        rw [e] at hk hf ⊢
        have hk' : k + ((sk_fl b s).length + 1) < 128 := hk
        have hf' : (sk_fl b s).length + 1 < f + 1 := hf
        rw [gm_stN _ _ _ (by omega)] at h0 h1
        refine br_f (nI_ge (b := 128) (by omega) (by decide)) (br_f (nI_nle (n := (sk_fl b s).length + 1) (by omega) (by omega)) (nm_r (e' := nI (sk_fl b s).length) (nI_pred _) ⟨vp_in_nI (by omega) (by omega), nm_r (e' := nI 0) (by rw [nI_clamp (by omega)]; exact g3) ?_⟩))
        refine br_t (by decide) ?_
        by_cases h14 : t ≤ 14
        · refine xg_number (a_wanted := w) h14 (by omega) g2 fun w' hw' => ⟨rfl, ?_⟩
          unfold xg_N at hw' ⊢
          by_cases h3 : t ≤ 3
          · rw [if_pos h3] at hw' ⊢
            exact h1 s (if_pos h3) true w' hs hw'
          rw [if_neg h3] at hw' ⊢
          by_cases h6 : t ≤ 6
          · rw [if_pos h6] at hw' ⊢
            exact h1 (6 :: s) (by rw [if_neg h3, if_pos h6]) true w' (by simp [sk_ok, sk_in, hs]) hw'
          rw [if_neg h6] at hw' ⊢
          by_cases h13 : t ≤ 13
          · rw [if_pos h13] at hw' ⊢
            exact h1 (5 :: 5 :: s) (by rw [if_neg h3, if_neg h6, if_pos h13]) true w' (by simp [sk_ok, sk_in, hs]) hw'
          · rw [if_neg h13] at hw' ⊢
            exact h1 (5 :: s) (by rw [if_neg h3, if_neg h6, if_neg h13, if_pos (by omega)]) true w' (by simp [sk_ok, sk_in, hs]) hw'
        · refine xg_numberF (by omega) ht ⟨rfl, h0 ?_ _ _ _⟩
          rw [if_neg (by omega), if_neg (by omega), if_neg (by omega), if_neg (by omega)]
      · -- a path is wanted
        have e : sk_fl b (6 :: s) = 1 :: sk_fl b s := rfl
        obtain ⟨g1, g2, g3⟩ := start 1 (sk_fl b s) e
        rw [e] at hk hf ⊢
        have hk' : k + ((sk_fl b s).length + 1) < 128 := hk
        have hf' : (sk_fl b s).length + 1 < f + 1 := hf
        rw [gm_stP _ _ _ (by omega)] at h0 h1
        refine br_f (nI_ge (b := 128) (by omega) (by decide)) (br_f (nI_nle (n := (sk_fl b s).length + 1) (by omega) (by omega)) (nm_r (e' := nI (sk_fl b s).length) (nI_pred _) ⟨vp_in_nI (by omega) (by omega), nm_r (e' := nI 1) (by rw [nI_clamp (by omega)]; exact g3) ?_⟩))
        refine br_f (by decide) (br_t (by decide) ?_)
        by_cases h15 : t = 15
        · subst h15
          exact xg_step (a_wanted := w) (by omega) g2 fun w' hw' => ⟨rfl, h1 (7 :: s) (if_pos rfl) true w' (by simp [sk_ok, sk_in, hs]) hw'⟩
        · exact xg_stepF h15 ht ⟨rfl, h0 (if_neg h15) _ _ _⟩
      · -- more of a path may come
        have e : sk_fl b (7 :: s) = 2 :: sk_fl b s := rfl
        obtain ⟨g1, g2, g3⟩ := start 2 (sk_fl b s) e
        rw [e] at hk hf ⊢
        have hk' : k + ((sk_fl b s).length + 1) < 128 := hk
        have hf' : (sk_fl b s).length + 1 < f + 1 := hf
        rw [gm_st7] at h0 h1
        refine br_f (nI_ge (b := 128) (by omega) (by decide)) (br_f (nI_nle (n := (sk_fl b s).length + 1) (by omega) (by omega)) (nm_r (e' := nI (sk_fl b s).length) (nI_pred _) ⟨vp_in_nI (by omega) (by omega), nm_r (e' := nI 2) (by rw [nI_clamp (by omega)]; exact g3) ?_⟩))
        refine br_f (by decide) (br_f (by decide) (br_f (by decide) (br_f (by decide) (br_t (by decide) ?_))))
        have m35 : ∀ {P : Int32 → SX → Prop} {w : Nat → Int32}, wX_takesMorePath_35 P (nI t) f_nodeCount f_innermost f_draftLength f_rulesGiven f_wrongToken (nI (sk_fl b s).length) (ys_b true) f_depth f_cursor f_outcome f_outputCount f_stepsTaken a_names a_values a_parents a_kinds a_operands a_priorities a_givenAt w a_axes a_passing a_ends a_openers a_table a_results a_matched a_listLeft a_listNode a_listPosition a_listSize a_listBody a_listReturn a_outputs → wpX_takesMorePath P (f_nodeCount, f_innermost, f_draftLength, f_rulesGiven, f_wrongToken, nI (sk_fl b s).length, ys_b true, f_depth, f_cursor, f_outcome, f_outputCount, f_stepsTaken, a_names, a_values, a_parents, a_kinds, a_operands, a_priorities, a_givenAt, w, a_axes, a_passing, a_ends, a_openers, a_table, a_results, a_matched, a_listLeft, a_listNode, a_listPosition, a_listSize, a_listBody, a_listReturn, a_outputs) (nI t) := fun h => br_c (fun _ => br_f (by decide) h) (fun _ => h)
        refine m35 ?_
        by_cases h15 : t = 15
        · subst h15
          exact xg_step (a_wanted := w) (by omega) g2 fun w' hw' => ⟨rfl, br_f (by decide) (h1 (7 :: s) (if_pos rfl) true w' (by simp [sk_ok, sk_in, hs]) hw')⟩
        · refine xg_stepF h15 ht ⟨rfl, br_t rfl (br_f (by decide) (nm_r (nI_1 k) (ih true (k + 1) f w hs g2 (by omega) (by omega) (by omega) (fun q => h0 ?_) (fun s' q => h1 s' ?_))))⟩
          · rw [if_neg h15]; exact q
          · rw [if_neg h15]; exact q
end
section
/-! the class: draftIs -/
variable {f_nodeCount f_innermost f_draftLength f_rulesGiven f_wrongToken f_wantedCount f_inCondition f_depth f_cursor f_outcome f_outputCount f_stepsTaken : Int32} {a_names a_values a_parents a_kinds a_operands a_priorities a_givenAt a_wanted a_axes a_passing a_ends a_openers a_table a_results a_matched a_listLeft a_listNode a_listPosition a_listSize a_listBody a_listReturn a_outputs : Nat → Int32}
theorem sk_get {w : Nat → Int32} : ∀ {l : List Nat} {j : Nat}, sk w l → j < l.length → ∃ x, x ∈ l ∧ w j = nI x
  | [], j, _, h => absurd h (by simp)
  | a :: l, j, ⟨h1, h2⟩, h => by
    have h' : j < l.length + 1 := h
    rcases Nat.lt_or_ge j l.length with z | z
    · obtain ⟨x, hx, e⟩ := sk_get h2 z
      exact ⟨x, List.mem_cons.mpr (Or.inr hx), e⟩
    · have : j = l.length := by omega
      exact ⟨a, List.mem_cons.mpr (Or.inl rfl), by rw [this]; exact h1⟩
theorem sk_mem {w : Nat → Int32} {x : Nat} : ∀ {l : List Nat}, sk w l → x ∈ l → ∃ j, j < l.length ∧ w j = nI x
  | [], _, h => absurd h (by simp)
  | a :: l, ⟨h1, h2⟩, h => by
    rcases List.mem_cons.mp h with e | e
    · exact ⟨l.length, by simp, by rw [e]; exact h1⟩
    · obtain ⟨j, hj, e⟩ := sk_mem h2 e
      exact ⟨j, by simp; omega, e⟩
theorem sk_ph_mem (c x : Nat) : x ∈ sk_ph c → x ≤ 5 := by
  unfold sk_ph
  repeat' split
  all_goals (intro h; simp at h; omega)
theorem sk_fl_mem {b : List Nat} (hb : ∀ x, x ∈ b → x = 6) : ∀ s x, x ∈ sk_fl b s → x ≤ 6
  | [], x, h => by have := hb x h; omega
  | c :: s, x, h => by
    rw [sk_fl, List.mem_append] at h
    rcases h with h | h
    · have := sk_ph_mem c x h; omega
    · exact sk_fl_mem hb s x h
theorem sk_ph_ok : ∀ c, c ≤ 8 → ((∀ x, x ∈ sk_ph c → x = 2 ∨ x = 4 ∨ x = 6) ↔ (c = 0 ∨ c = 4 ∨ c = 7)) := by
  intro c hc
  rcases (show c = 0 ∨ c = 1 ∨ c = 2 ∨ c = 3 ∨ c = 4 ∨ c = 5 ∨ c = 6 ∨ c = 7 ∨ c = 8 by omega) with rfl | rfl | rfl | rfl | rfl | rfl | rfl | rfl | rfl <;> decide
theorem sk_fin {b : List Nat} (hb : ∀ x, x ∈ b → x = 6) : ∀ s, (∀ v, v ∈ s → v ≤ 8) → ((∀ x, x ∈ sk_fl b s → x = 2 ∨ x = 4 ∨ x = 6) ↔ ∀ v, v ∈ s → v = 0 ∨ v = 4 ∨ v = 7)
  | [], _ => ⟨fun _ v h => absurd h (by simp), fun _ x h => Or.inr (Or.inr (hb x h))⟩
  | c :: s, h8 => by
    have ih := sk_fin hb s (fun v hv => h8 v (List.mem_cons.mpr (Or.inr hv)))
    have hc := sk_ph_ok c (h8 c (List.mem_cons.mpr (Or.inl rfl)))
    constructor
    · intro h v hv
      rcases List.mem_cons.mp hv with e | e
      · rw [e]; exact hc.mp (fun x hx => h x (by rw [sk_fl, List.mem_append]; exact Or.inl hx))
      · exact ih.mp (fun x hx => h x (by rw [sk_fl, List.mem_append]; exact Or.inr hx)) v e
    · intro h x hx
      rw [sk_fl, List.mem_append] at hx
      rcases hx with hx | hx
      · exact hc.mpr (h c (List.mem_cons.mpr (Or.inl rfl))) x hx
      · exact ih.mpr (fun v hv => h v (List.mem_cons.mpr (Or.inr hv))) x hx
theorem sk_out8 {z : Bool} : ∀ s, sk_out z s → ∀ v, v ∈ s → v ≤ 8
  | [], _, v, h => absurd h (by simp)
  | a :: s, hs, v, h => by
    rcases hs with ⟨h0, h1, _⟩ | ⟨h1, h2, hs⟩
    · rw [h0, h1] at h
      have : v = 0 := by simpa using h
      omega
    · rcases List.mem_cons.mp h with e | e
      · omega
      · exact sk_out8 s hs v e
theorem sk_in8 {z : Bool} : ∀ s, sk_in z s → ∀ v, v ∈ s → v ≤ 8
  | [], hs, v, h => absurd hs id
  | a :: s, hs, v, h => by
    rcases hs with ⟨h0, h1⟩ | ⟨h1, h2, hs⟩
    · rcases List.mem_cons.mp h with e | e
      · omega
      · exact sk_out8 s h1 v e
    · rcases List.mem_cons.mp h with e | e
      · omega
      · exact sk_in8 s hs v e
theorem sk_ok8 {z c : Bool} {s : List Nat} (h : sk_ok z c s) : ∀ v, v ∈ s → v ≤ 8 := by
  cases c
  · exact sk_out8 s h
  · exact sk_in8 s h
theorem xg_may {post : Int32 → Prop} {v : Nat} (hv : v < 100) (h1 : (v = 2 ∨ v = 4 ∨ v = 6) → post 1) (h0 : ¬ (v = 2 ∨ v = 4 ∨ v = 6) → post 0) : wpX_mayStayOut post (f_nodeCount, f_innermost, f_draftLength, f_rulesGiven, f_wrongToken, f_wantedCount, f_inCondition, f_depth, f_cursor, f_outcome, f_outputCount, f_stepsTaken, a_names, a_values, a_parents, a_kinds, a_operands, a_priorities, a_givenAt, a_wanted, a_axes, a_passing, a_ends, a_openers, a_table, a_results, a_matched, a_listLeft, a_listNode, a_listPosition, a_listSize, a_listBody, a_listReturn, a_outputs) (nI v) :=
  pk_eq v 2 (fun z => h1 (Or.inl z)) (fun a => pk_eq v 4 (fun z => h1 (Or.inr (Or.inl z))) (fun b => pk_eq v 6 (fun z => h1 (Or.inr (Or.inr z))) (fun c => h0 (fun z => z.elim a (fun z => z.elim b c)))))
theorem xg_62 {post : Int32 → SX → Prop} {l : List Nat} {len : Nat} (hl : l.length < 128) (h6 : ∀ x, x ∈ l → x ≤ 6) (hw : sk a_wanted l) (h1 : (∀ x, x ∈ l → x = 2 ∨ x = 4 ∨ x = 6) → post 1 (f_nodeCount, f_innermost, nI len, f_rulesGiven, f_wrongToken, nI l.length, f_inCondition, f_depth, f_cursor, f_outcome, f_outputCount, f_stepsTaken, a_names, a_values, a_parents, a_kinds, a_operands, a_priorities, a_givenAt, a_wanted, a_axes, a_passing, a_ends, a_openers, a_table, a_results, a_matched, a_listLeft, a_listNode, a_listPosition, a_listSize, a_listBody, a_listReturn, a_outputs)) (h0 : ¬ (∀ x, x ∈ l → x = 2 ∨ x = 4 ∨ x = 6) → post 0 (f_nodeCount, f_innermost, nI len, f_rulesGiven, nI len, nI l.length, f_inCondition, f_depth, f_cursor, f_outcome, f_outputCount, f_stepsTaken, a_names, a_values, a_parents, a_kinds, a_operands, a_priorities, a_givenAt, a_wanted, a_axes, a_passing, a_ends, a_openers, a_table, a_results, a_matched, a_listLeft, a_listNode, a_listPosition, a_listSize, a_listBody, a_listReturn, a_outputs)) :
    ∀ d j f, j + d = l.length → d < f → (∀ i, i < j → ∀ x, a_wanted i = nI x → x ≤ 6 → x = 2 ∨ x = 4 ∨ x = 6) → wX_draftIs_62 post f_nodeCount f_innermost (nI len) f_rulesGiven f_wrongToken (nI l.length) f_inCondition f_depth f_cursor f_outcome f_outputCount f_stepsTaken a_names a_values a_parents a_kinds a_operands a_priorities a_givenAt a_wanted a_axes a_passing a_ends a_openers a_table a_results a_matched a_listLeft a_listNode a_listPosition a_listSize a_listBody a_listReturn a_outputs f (nI j) := by
  intro d
  induction d with
  | zero =>
    intro j f hj hf h
    obtain ⟨f, rfl⟩ : ∃ x, f = x + 1 := ⟨f - 1, by omega⟩
    refine br_t (nI_le (by omega) (by omega)) (h1 fun x hx => ?_)
    obtain ⟨i, hi, e⟩ := sk_mem hw hx
    exact h i (by omega) x e (h6 x hx)
  | succ d ih =>
    intro j f hj hf h
    obtain ⟨f, rfl⟩ : ∃ x, f = x + 1 := ⟨f - 1, by omega⟩
    obtain ⟨x, hx, e⟩ := sk_get hw (show j < l.length by omega)
    have x6 := h6 x hx
    refine br_f (nI_ge (by omega) (by omega)) ⟨vp_in_nI (by omega) (by omega), ?_⟩
    rw [nI_clamp (by omega), e]
    refine xg_may (by omega) (fun g => br_f (by decide) (nm_r (nI_1 j) (ih (j + 1) f (by omega) (by omega) fun i hi y ey y6 => ?_))) (fun g => br_t rfl (h0 fun q => g (q x hx)))
    rcases Nat.lt_or_ge i j with z | z
    · exact h i z y ey y6
    · have : i = j := by omega
      rw [this, e] at ey
      have := (nI_eq (by omega) (by omega)).mp ey
      rw [← this]; exact g
theorem xg_22 {post : Int32 → SX → Prop} {K : Nat → Nat} {len : Nat} {z : Bool} {b : List Nat} (hb : (z = true ∧ b = []) ∨ (z = false ∧ b = [6])) (hl : len ≤ 30) (hk : xs_k a_kinds 192 K) (h100 : ∀ i, i < len → K i < 100) :
    ∀ d i s c f w, i + d = len → d < f → sk_ok z c s → sk w (sk_fl b s) → s.length ≤ 2 + 2 * i →
      (gm_run K d i s = none → ∀ (wc ic : Int32) (w' : Nat → Int32), post 1 (f_nodeCount, f_innermost, nI len, f_rulesGiven, f_wrongToken, wc, ic, f_depth, f_cursor, f_outcome, f_outputCount, f_stepsTaken, a_names, a_values, a_parents, a_kinds, a_operands, a_priorities, a_givenAt, w', a_axes, a_passing, a_ends, a_openers, a_table, a_results, a_matched, a_listLeft, a_listNode, a_listPosition, a_listSize, a_listBody, a_listReturn, a_outputs)) →
      (∀ p, gm_run K d i s = some p → ∀ (wc ic : Int32) (w' : Nat → Int32), post 0 (f_nodeCount, f_innermost, nI len, f_rulesGiven, nI p, wc, ic, f_depth, f_cursor, f_outcome, f_outputCount, f_stepsTaken, a_names, a_values, a_parents, a_kinds, a_operands, a_priorities, a_givenAt, w', a_axes, a_passing, a_ends, a_openers, a_table, a_results, a_matched, a_listLeft, a_listNode, a_listPosition, a_listSize, a_listBody, a_listReturn, a_outputs)) →
      wX_draftIs_22 post f (nI i) f_nodeCount f_innermost (nI len) f_rulesGiven f_wrongToken (nI (sk_fl b s).length) (ys_b c) f_depth f_cursor f_outcome f_outputCount f_stepsTaken a_names a_values a_parents a_kinds a_operands a_priorities a_givenAt w a_axes a_passing a_ends a_openers a_table a_results a_matched a_listLeft a_listNode a_listPosition a_listSize a_listBody a_listReturn a_outputs := by
  have hb1 : b.length ≤ 1 := by
    rcases hb with ⟨_, e⟩ | ⟨_, e⟩ <;> rw [e] <;> decide
  have hb6 : ∀ x, x ∈ b → x = 6 := by
    rcases hb with ⟨_, e⟩ | ⟨_, e⟩ <;> rw [e] <;> simp
  intro d
  induction d with
  | zero =>
    intro i s c f w hi hf hok hw hs hN hS
    obtain ⟨f, rfl⟩ : ∃ x, f = x + 1 := ⟨f - 1, by omega⟩
    have fl := sk_fll b s
    have e : i = len := by omega
    subst e
    have fin := sk_fin hb6 s (sk_ok8 hok)
    rw [gm_run] at hN hS
    refine br_t (nI_le (Nat.le_refl _) (by omega)) ⟨(sk_fl b s).length + 1, xg_62 (by omega) (sk_fl_mem hb6 s) hw (fun q => hN (if_pos (fin.mp q)) _ _ _) (fun q => hS i (if_neg (fun y => q (fin.mpr y))) _ _ _) _ 0 _ (Nat.zero_add _) (by omega) (fun i hi => absurd hi (by omega))⟩
  | succ d ih =>
    intro i s c f w hi hf hok hw hs hN hS
    obtain ⟨f, rfl⟩ : ∃ x, f = x + 1 := ⟨f - 1, by omega⟩
    have fl := sk_fll b s
    have e192 : (192 : Int32) + nI i = nI (192 + i) := nI_add 192 i
    rw [gm_run] at hN hS
    refine br_f (nI_ge (by omega) (by omega)) ⟨by rw [e192]; exact vp_in_nI (by omega) (by omega), ?_⟩
    rw [e192, nI_clamp (by omega), hk i (by omega)]
    refine ⟨(sk_fl b s).length + 1, xg_takes_l (h100 i (by omega)) hb s c 0 _ w hok hw (by omega) (by omega) (by omega) (fun q wc ic w' => br_t rfl ?_) (fun s' q c' w' hok' hw' => br_f (by decide) (nm_r (nI_1 i) ?_))⟩
    · rw [q] at hS
      exact hS i rfl wc ic w'
    · rw [q] at hN hS
      obtain ⟨c2, _, hlen⟩ := sk_st hok q
      exact ih (i + 1) s' c' f w' (by omega) (by omega) hok' hw' (by omega) hN hS
theorem xg_draftIs {post : Int32 → SX → Prop} {K : Nat → Nat} {len p0 p1 : Nat} {z : Bool} {b s : List Nat} (hb : (z = true ∧ b = []) ∨ (z = false ∧ b = [6])) (hl : len ≤ 30) (hk : xs_k a_kinds 192 K) (h100 : ∀ i, i < len → K i < 100) (hok : sk_ok z false s) (hs : s.length ≤ 2) (hfl : sk_fl b s = [p0, p1])
    (hN : gm_run K len 0 s = none → ∀ (wc ic : Int32) (w' : Nat → Int32), post 1 (f_nodeCount, f_innermost, nI len, f_rulesGiven, f_wrongToken, wc, ic, f_depth, f_cursor, f_outcome, f_outputCount, f_stepsTaken, a_names, a_values, a_parents, a_kinds, a_operands, a_priorities, a_givenAt, w', a_axes, a_passing, a_ends, a_openers, a_table, a_results, a_matched, a_listLeft, a_listNode, a_listPosition, a_listSize, a_listBody, a_listReturn, a_outputs))
    (hS : ∀ p, gm_run K len 0 s = some p → ∀ (wc ic : Int32) (w' : Nat → Int32), post 0 (f_nodeCount, f_innermost, nI len, f_rulesGiven, nI p, wc, ic, f_depth, f_cursor, f_outcome, f_outputCount, f_stepsTaken, a_names, a_values, a_parents, a_kinds, a_operands, a_priorities, a_givenAt, w', a_axes, a_passing, a_ends, a_openers, a_table, a_results, a_matched, a_listLeft, a_listNode, a_listPosition, a_listSize, a_listBody, a_listReturn, a_outputs)) :
    wpX_draftIs post (f_nodeCount, f_innermost, nI len, f_rulesGiven, f_wrongToken, f_wantedCount, f_inCondition, f_depth, f_cursor, f_outcome, f_outputCount, f_stepsTaken, a_names, a_values, a_parents, a_kinds, a_operands, a_priorities, a_givenAt, a_wanted, a_axes, a_passing, a_ends, a_openers, a_table, a_results, a_matched, a_listLeft, a_listNode, a_listPosition, a_listSize, a_listBody, a_listReturn, a_outputs) (nI p0) (nI p1) := by
  unfold wpX_draftIs
  refine xg_wl (l := []) (v := p1) (by decide) trivial fun w1 h1 => ?_
  refine xg_wl (l := [p1]) (v := p0) (by simp) h1 fun w2 h2 => ?_
  refine ⟨len + 1, ?_⟩
  have := xg_22 (post := post) (f_nodeCount := f_nodeCount) (f_innermost := f_innermost) (f_rulesGiven := f_rulesGiven) (f_wrongToken := f_wrongToken) (f_depth := f_depth) (f_cursor := f_cursor) (f_outcome := f_outcome) (f_outputCount := f_outputCount) (f_stepsTaken := f_stepsTaken) hb hl hk h100 len 0 s false (len + 1) w2 (by omega) (by omega) hok (by rw [hfl]; exact h2) (by omega) hN hS
  rw [hfl] at this
  exact this
end
section
/-! the reference: the grammar -/
variable {g_nodes g_inner g_rules g_place g_listed g_depth g_row g_pc g_node g_position g_size g_fault g_put g_steps : Int32} {b_name b_parent b_value b_kind b_with b_count b_bodyAt b_priority b_given b_there b_wanted b_waiting b_within b_list b_left b_reached b_sizes b_each b_backRow b_backPc b_backNode b_backPosition b_backSize b_output : Nat → Int32}
theorem yg_nb : ∀ m, m < 128 → (nI m).toInt8.toInt32 = nI m := by decide +kernel
theorem yg_nar {m : Nat} (h : m < 128) : vp_nar .byte (nI m) = nI m := by rw [vp_nar_byte]; exact yg_nb m h
theorem yg_213 {post : Int32 → SY → Prop} {J : Int32 → Int32 → Int32 → Int32 → Int32 → Int32 → Int32 → Int32 → Int32 → Int32 → Int32 → Int32 → Int32 → Int32 → Int32 → Int32 → (Nat → Int32) → (Nat → Int32) → (Nat → Int32) → (Nat → Int32) → (Nat → Int32) → (Nat → Int32) → (Nat → Int32) → (Nat → Int32) → (Nat → Int32) → (Nat → Int32) → (Nat → Int32) → (Nat → Int32) → (Nat → Int32) → (Nat → Int32) → (Nat → Int32) → (Nat → Int32) → (Nat → Int32) → (Nat → Int32) → (Nat → Int32) → (Nat → Int32) → (Nat → Int32) → (Nat → Int32) → (Nat → Int32) → (Nat → Int32) → Prop} {x3 : Int32} {i k : Nat} (hk : k < 2 ^ 31) (h : J (nI k) (nI (i + 1)) g_nodes g_inner g_rules g_place g_listed g_depth g_row g_pc g_node g_position g_size g_fault g_put g_steps b_name b_parent b_value b_kind b_with b_count b_bodyAt b_priority b_given b_there b_wanted b_waiting b_within b_list b_left b_reached b_sizes b_each b_backRow b_backPc b_backNode b_backPosition b_backSize b_output) : wY_misfit_213 post J x3 (nI i) (nI k) g_nodes g_inner g_rules g_place g_listed g_depth g_row g_pc g_node g_position g_size g_fault g_put g_steps b_name b_parent b_value b_kind b_with b_count b_bodyAt b_priority b_given b_there b_wanted b_waiting b_within b_list b_left b_reached b_sizes b_each b_backRow b_backPc b_backNode b_backPosition b_backSize b_output :=
  br_t (nI_pos' hk) (nm_r (nI_1 i) h)
theorem yg_213F {post : Int32 → SY → Prop} {J : Int32 → Int32 → Int32 → Int32 → Int32 → Int32 → Int32 → Int32 → Int32 → Int32 → Int32 → Int32 → Int32 → Int32 → Int32 → Int32 → (Nat → Int32) → (Nat → Int32) → (Nat → Int32) → (Nat → Int32) → (Nat → Int32) → (Nat → Int32) → (Nat → Int32) → (Nat → Int32) → (Nat → Int32) → (Nat → Int32) → (Nat → Int32) → (Nat → Int32) → (Nat → Int32) → (Nat → Int32) → (Nat → Int32) → (Nat → Int32) → (Nat → Int32) → (Nat → Int32) → (Nat → Int32) → (Nat → Int32) → (Nat → Int32) → (Nat → Int32) → (Nat → Int32) → (Nat → Int32) → Prop} {x3 x4 : Int32} (h : post x4 (g_nodes, g_inner, g_rules, g_place, g_listed, g_depth, g_row, g_pc, g_node, g_position, g_size, g_fault, g_put, g_steps, b_name, b_parent, b_value, b_kind, b_with, b_count, b_bodyAt, b_priority, b_given, b_there, b_wanted, b_waiting, b_within, b_list, b_left, b_reached, b_sizes, b_each, b_backRow, b_backPc, b_backNode, b_backPosition, b_backSize, b_output)) : wY_misfit_213 post J x3 x4 (-1) g_nodes g_inner g_rules g_place g_listed g_depth g_row g_pc g_node g_position g_size g_fault g_put g_steps b_name b_parent b_value b_kind b_with b_count b_bodyAt b_priority b_given b_there b_wanted b_waiting b_within b_list b_left b_reached b_sizes b_each b_backRow b_backPc b_backNode b_backPosition b_backSize b_output := br_f (by decide) h
theorem yg_in {k : Nat} (h : k < 64) : vp_in (nI k) 64 := vp_in_nI h (by omega)
/-- one more want on the stack -/
theorem yg_push {s : List Nat} {w : Nat → Int32} {v : Nat} {x : Int32} (hx : vp_nar .byte x = nI v) (h : sk w s) (hl : s.length < 64) : upd w (nI s.length).toNatClampNeg (vp_nar .byte x) = upd w s.length (nI v) ∧ sk (upd w s.length (nI v)) (v :: s) := by
  rw [nI_clamp (by omega), hx]
  exact ⟨rfl, sk_p h⟩
theorem yg_body {post : Int32 → SY → Prop} {J : Int32 → Int32 → Int32 → Int32 → Int32 → Int32 → Int32 → Int32 → Int32 → Int32 → Int32 → Int32 → Int32 → Int32 → Int32 → Int32 → (Nat → Int32) → (Nat → Int32) → (Nat → Int32) → (Nat → Int32) → (Nat → Int32) → (Nat → Int32) → (Nat → Int32) → (Nat → Int32) → (Nat → Int32) → (Nat → Int32) → (Nat → Int32) → (Nat → Int32) → (Nat → Int32) → (Nat → Int32) → (Nat → Int32) → (Nat → Int32) → (Nat → Int32) → (Nat → Int32) → (Nat → Int32) → (Nat → Int32) → (Nat → Int32) → (Nat → Int32) → (Nat → Int32) → (Nat → Int32) → Prop} {x3 : Int32} {i t w0 : Nat} {s : List Nat} (h01 : w0 = 0 ∨ w0 = 1) (ht : t < 100) (hs : s.length < 60) (hw : sk b_wanted (w0 :: s))
    (h0 : (if t = 20 then some (w0 :: s) else if t = 21 then some (1 :: w0 :: s) else if t = 22 then some (2 :: w0 :: s)
       else if t = 23 then some (3 :: w0 :: s) else if t = 24 then some (2 :: 1 :: w0 :: s) else if t = 25 then some (3 :: 1 :: w0 :: s)
       else if t = 26 ∧ w0 = 1 then some s else none) = none → ∀ w', post (nI i) (g_nodes, g_inner, g_rules, g_place, g_listed, g_depth, g_row, g_pc, g_node, g_position, g_size, g_fault, g_put, g_steps, b_name, b_parent, b_value, b_kind, b_with, b_count, b_bodyAt, b_priority, b_given, b_there, w', b_waiting, b_within, b_list, b_left, b_reached, b_sizes, b_each, b_backRow, b_backPc, b_backNode, b_backPosition, b_backSize, b_output))
    (h1 : ∀ s', (if t = 20 then some (w0 :: s) else if t = 21 then some (1 :: w0 :: s) else if t = 22 then some (2 :: w0 :: s)
       else if t = 23 then some (3 :: w0 :: s) else if t = 24 then some (2 :: 1 :: w0 :: s) else if t = 25 then some (3 :: 1 :: w0 :: s)
       else if t = 26 ∧ w0 = 1 then some s else none) = some s' → ∀ w', sk w' s' → J (nI s'.length) (nI (i + 1)) g_nodes g_inner g_rules g_place g_listed g_depth g_row g_pc g_node g_position g_size g_fault g_put g_steps b_name b_parent b_value b_kind b_with b_count b_bodyAt b_priority b_given b_there w' b_waiting b_within b_list b_left b_reached b_sizes b_each b_backRow b_backPc b_backNode b_backPosition b_backSize b_output) :
    wpY_body (fun r u => match u with | (g_nodes_1, g_inner_1, g_rules_1, g_place_1, g_listed_1, g_depth_1, g_row_1, g_pc_1, g_node_1, g_position_1, g_size_1, g_fault_1, g_put_1, g_steps_1, b_name_1, b_parent_1, b_value_1, b_kind_1, b_with_1, b_count_1, b_bodyAt_1, b_priority_1, b_given_1, b_there_1, b_wanted_1, b_waiting_1, b_within_1, b_list_1, b_left_1, b_reached_1, b_sizes_1, b_each_1, b_backRow_1, b_backPc_1, b_backNode_1, b_backPosition_1, b_backSize_1, b_output_1) => wY_misfit_213 post J x3 (nI i) r g_nodes_1 g_inner_1 g_rules_1 g_place_1 g_listed_1 g_depth_1 g_row_1 g_pc_1 g_node_1 g_position_1 g_size_1 g_fault_1 g_put_1 g_steps_1 b_name_1 b_parent_1 b_value_1 b_kind_1 b_with_1 b_count_1 b_bodyAt_1 b_priority_1 b_given_1 b_there_1 b_wanted_1 b_waiting_1 b_within_1 b_list_1 b_left_1 b_reached_1 b_sizes_1 b_each_1 b_backRow_1 b_backPc_1 b_backNode_1 b_backPosition_1 b_backSize_1 b_output_1) (g_nodes, g_inner, g_rules, g_place, g_listed, g_depth, g_row, g_pc, g_node, g_position, g_size, g_fault, g_put, g_steps, b_name, b_parent, b_value, b_kind, b_with, b_count, b_bodyAt, b_priority, b_given, b_there, b_wanted, b_waiting, b_within, b_list, b_left, b_reached, b_sizes, b_each, b_backRow, b_backPc, b_backNode, b_backPosition, b_backSize, b_output) (nI w0) (nI t) (nI (s.length + 1)) := by
  have c1 : (nI (s.length + 1)).toNatClampNeg = s.length + 1 := nI_clamp (by omega)
  have c2 : (nI (s.length + 2)).toNatClampNeg = s.length + 2 := nI_clamp (by omega)
  by_cases hlo : t < 20
  · refine br_t (nI_lt (b := 20) hlo (by omega)) (yg_213F (h0 ?_ _))
    rw [if_neg (by omega), if_neg (by omega), if_neg (by omega), if_neg (by omega), if_neg (by omega), if_neg (by omega), if_neg (by omega)]
  refine br_f (nI_nlt (b := 20) (by omega) (by omega)) ?_
  by_cases hhi : 26 < t
  · refine br_t (nI_lt (a := 26) hhi (by omega)) (yg_213F (h0 ?_ _))
    rw [if_neg (by omega), if_neg (by omega), if_neg (by omega), if_neg (by omega), if_neg (by omega), if_neg (by omega), if_neg (by omega)]
  refine br_f (nI_nlt (a := 26) (by omega) (by omega)) ?_
  have two : ∀ v1 v2, v1 < 128 → v2 < 128 → sk (upd (upd b_wanted (s.length + 1) (nI v1)) (s.length + 2) (nI v2)) (v2 :: v1 :: w0 :: s) := fun v1 v2 _ _ => sk_p (s := v1 :: w0 :: s) (sk_p (s := w0 :: s) hw)
  rcases (show t = 20 ∨ t = 21 ∨ t = 22 ∨ t = 23 ∨ t = 24 ∨ t = 25 ∨ t = 26 by omega) with rfl | rfl | rfl | rfl | rfl | rfl | rfl
  · exact br_t (by decide) (yg_213 (by omega) (h1 (w0 :: s) rfl _ hw))
  · exact br_f (by decide) (br_t (by decide) (nm_r (nI_1 _) ⟨yg_in (by omega), nm_r (e' := upd b_wanted (s.length + 1) (nI 1)) (by rw [c1]; exact congrArg _ (yg_nar (m := 1) (by omega))) (yg_213 (by omega) (h1 (1 :: w0 :: s) rfl _ (sk_p (s := w0 :: s) hw)))⟩))
  · exact br_f (by decide) (br_f (by decide) (br_t (by decide) (nm_r (nI_1 _) ⟨yg_in (by omega), nm_r (e' := upd b_wanted (s.length + 1) (nI 2)) (by rw [c1]; exact congrArg _ (yg_nar (m := 2) (by omega))) (yg_213 (by omega) (h1 (2 :: w0 :: s) rfl _ (sk_p (s := w0 :: s) hw)))⟩)))
  · exact br_f (by decide) (br_f (by decide) (br_f (by decide) (br_t (by decide) (nm_r (nI_1 _) ⟨yg_in (by omega), nm_r (e' := upd b_wanted (s.length + 1) (nI 3)) (by rw [c1]; exact congrArg _ (yg_nar (m := 3) (by omega))) (yg_213 (by omega) (h1 (3 :: w0 :: s) rfl _ (sk_p (s := w0 :: s) hw)))⟩))))
  · exact br_f (by decide) (br_f (by decide) (br_f (by decide) (br_f (by decide) (br_t (by decide) (nm_r (nI_1 _) ⟨yg_in (by omega), nm_r (e' := upd b_wanted (s.length + 1) (nI 1)) (by rw [c1]; exact congrArg _ (yg_nar (m := 1) (by omega))) (nm_r (nI_1 _) (br_t (by decide) ⟨yg_in (by omega), nm_r (e' := upd (upd b_wanted (s.length + 1) (nI 1)) (s.length + 2) (nI 2)) (by rw [c2]; exact congrArg _ (yw_nar (m := 2) (by omega))) (yg_213 (by omega) (h1 (2 :: 1 :: w0 :: s) rfl _ (two 1 2 (by omega) (by omega))))⟩))⟩)))))
  · exact br_f (by decide) (br_f (by decide) (br_f (by decide) (br_f (by decide) (br_f (by decide) (br_t (by decide) (nm_r (nI_1 _) ⟨yg_in (by omega), nm_r (e' := upd b_wanted (s.length + 1) (nI 1)) (by rw [c1]; exact congrArg _ (yg_nar (m := 1) (by omega))) (nm_r (nI_1 _) (br_f (by decide) ⟨yg_in (by omega), nm_r (e' := upd (upd b_wanted (s.length + 1) (nI 1)) (s.length + 2) (nI 3)) (by rw [c2]; exact congrArg _ (yw_nar (m := 3) (by omega))) (yg_213 (by omega) (h1 (3 :: 1 :: w0 :: s) rfl _ (two 1 3 (by omega) (by omega))))⟩))⟩))))))
  · refine br_f (by decide) (br_f (by decide) (br_f (by decide) (br_f (by decide) (br_f (by decide) (br_f (by decide) (br_t (by decide) ?_))))))
    rcases h01 with rfl | rfl
    · exact br_f (by decide) (yg_213F (h0 rfl _))
    · refine br_t (by decide) ?_
      rw [nI_pred]
      exact yg_213 (by omega) (h1 s rfl _ hw.2)
theorem yg_operand {post : Int32 → SY → Prop} {J : Int32 → Int32 → Int32 → Int32 → Int32 → Int32 → Int32 → Int32 → Int32 → Int32 → Int32 → Int32 → Int32 → Int32 → Int32 → Int32 → (Nat → Int32) → (Nat → Int32) → (Nat → Int32) → (Nat → Int32) → (Nat → Int32) → (Nat → Int32) → (Nat → Int32) → (Nat → Int32) → (Nat → Int32) → (Nat → Int32) → (Nat → Int32) → (Nat → Int32) → (Nat → Int32) → (Nat → Int32) → (Nat → Int32) → (Nat → Int32) → (Nat → Int32) → (Nat → Int32) → (Nat → Int32) → (Nat → Int32) → (Nat → Int32) → (Nat → Int32) → (Nat → Int32) → (Nat → Int32) → Prop} {x3 : Int32} {i t w0 : Nat} {s : List Nat} (h01 : w0 = 2 ∨ w0 = 5) (ht : t < 100) (hs : s.length < 60) (hw : sk b_wanted (w0 :: s)) (h0 : gm_st t (w0 :: s) = none → ∀ w', post (nI i) (g_nodes, g_inner, g_rules, g_place, g_listed, g_depth, g_row, g_pc, g_node, g_position, g_size, g_fault, g_put, g_steps, b_name, b_parent, b_value, b_kind, b_with, b_count, b_bodyAt, b_priority, b_given, b_there, w', b_waiting, b_within, b_list, b_left, b_reached, b_sizes, b_each, b_backRow, b_backPc, b_backNode, b_backPosition, b_backSize, b_output)) (h1 : ∀ s', gm_st t (w0 :: s) = some s' → ∀ w', sk w' s' → J (nI s'.length) (nI (i + 1)) g_nodes g_inner g_rules g_place g_listed g_depth g_row g_pc g_node g_position g_size g_fault g_put g_steps b_name b_parent b_value b_kind b_with b_count b_bodyAt b_priority b_given b_there w' b_waiting b_within b_list b_left b_reached b_sizes b_each b_backRow b_backPc b_backNode b_backPosition b_backSize b_output) :
    wY_misfit_168 post J (nI (s.length + 1)) x3 (nI i) (nI t) (nI w0) g_nodes g_inner g_rules g_place g_listed g_depth g_row g_pc g_node g_position g_size g_fault g_put g_steps b_name b_parent b_value b_kind b_with b_count b_bodyAt b_priority b_given b_there b_wanted b_waiting b_within b_list b_left b_reached b_sizes b_each b_backRow b_backPc b_backNode b_backPosition b_backSize b_output := by
  have c1 : (nI s.length).toNatClampNeg = s.length := nI_clamp (by omega)
  have c2 : (nI (s.length + 1)).toNatClampNeg = s.length + 1 := nI_clamp (by omega)
  rw [gm_stN _ _ _ h01] at h0 h1
  have wn : vp_nar .byte (nI w0).toInt8.toInt32 = nI w0 := yw_nar (by omega)
  have wn1 : vp_nar .byte (nI w0 + 1).toInt8.toInt32 = nI (w0 + 1) := by rw [nI_1]; exact yw_nar (by omega)
  unfold wY_misfit_168 wpY_operand
  refine nm_r (nI_pred _) ?_
  by_cases h3 : t ≤ 3
  · refine br_f (nI_ge (b := 4) (by omega) (by omega)) (yg_213 (by omega) (h1 s (if_pos h3) _ hw.2))
  refine br_t (nI_le (a := 4) (by omega) (by omega)) ?_
  by_cases h6 : t ≤ 6
  · refine br_f (nI_ge (b := 7) (by omega) (by omega)) (nm_r (nI_1 _) ⟨yg_in (by omega), nm_r (e' := upd b_wanted s.length (nI (w0 + 1))) (by rw [c1, wn1]) (yg_213 (by omega) (h1 ((w0 + 1) :: s) (by rw [if_neg h3, if_pos h6]) _ (sk_p hw.2)))⟩)
  refine br_t (nI_le (a := 7) (by omega) (by omega)) ?_
  by_cases h14 : t ≤ 14
  · refine br_t (nI_le (b := 14) h14 (by omega)) (nm_r (nI_1 _) ⟨yg_in (by omega), nm_r (e' := upd b_wanted s.length (nI w0)) (by rw [c1, wn]) ?_⟩)
    by_cases h13 : t ≤ 13
    · exact br_f (nI_ge (b := 14) (by omega) (by omega)) (nm_r (nI_1 _) ⟨yg_in (by omega), nm_r (e' := upd (upd b_wanted s.length (nI w0)) (s.length + 1) (nI w0)) (by rw [c2, wn]) (yg_213 (by omega) (h1 (w0 :: w0 :: s) (by rw [if_neg h3, if_neg h6, if_pos h13]) _ (sk_p (s := w0 :: s) (sk_p hw.2))))⟩)
    · exact br_t (nI_le (a := 14) (by omega) (by omega)) (yg_213 (by omega) (h1 (w0 :: s) (by rw [if_neg h3, if_neg h6, if_neg h13, if_pos (by omega)]) _ (sk_p hw.2)))
  · refine br_f (nI_ge (a := 14) (by omega) (by omega)) (yg_213F (h0 ?_ _))
    rw [if_neg h3, if_neg h6, if_neg (by omega), if_neg (by omega)]
theorem yg_step3 {post : Int32 → SY → Prop} {J : Int32 → Int32 → Int32 → Int32 → Int32 → Int32 → Int32 → Int32 → Int32 → Int32 → Int32 → Int32 → Int32 → Int32 → Int32 → Int32 → (Nat → Int32) → (Nat → Int32) → (Nat → Int32) → (Nat → Int32) → (Nat → Int32) → (Nat → Int32) → (Nat → Int32) → (Nat → Int32) → (Nat → Int32) → (Nat → Int32) → (Nat → Int32) → (Nat → Int32) → (Nat → Int32) → (Nat → Int32) → (Nat → Int32) → (Nat → Int32) → (Nat → Int32) → (Nat → Int32) → (Nat → Int32) → (Nat → Int32) → (Nat → Int32) → (Nat → Int32) → (Nat → Int32) → (Nat → Int32) → Prop} {x3 : Int32} {i t w0 : Nat} {s : List Nat} (h01 : w0 = 3 ∨ w0 = 6) (ht : t < 100) (hs : s.length < 60) (hw : sk b_wanted (w0 :: s)) (h0 : gm_st t (w0 :: s) = none → ∀ w', post (nI i) (g_nodes, g_inner, g_rules, g_place, g_listed, g_depth, g_row, g_pc, g_node, g_position, g_size, g_fault, g_put, g_steps, b_name, b_parent, b_value, b_kind, b_with, b_count, b_bodyAt, b_priority, b_given, b_there, w', b_waiting, b_within, b_list, b_left, b_reached, b_sizes, b_each, b_backRow, b_backPc, b_backNode, b_backPosition, b_backSize, b_output)) (h1 : ∀ s', gm_st t (w0 :: s) = some s' → ∀ w', sk w' s' → J (nI s'.length) (nI (i + 1)) g_nodes g_inner g_rules g_place g_listed g_depth g_row g_pc g_node g_position g_size g_fault g_put g_steps b_name b_parent b_value b_kind b_with b_count b_bodyAt b_priority b_given b_there w' b_waiting b_within b_list b_left b_reached b_sizes b_each b_backRow b_backPc b_backNode b_backPosition b_backSize b_output) :
    wpY_step (fun r u => match u with | (g_nodes_1, g_inner_1, g_rules_1, g_place_1, g_listed_1, g_depth_1, g_row_1, g_pc_1, g_node_1, g_position_1, g_size_1, g_fault_1, g_put_1, g_steps_1, b_name_1, b_parent_1, b_value_1, b_kind_1, b_with_1, b_count_1, b_bodyAt_1, b_priority_1, b_given_1, b_there_1, b_wanted_1, b_waiting_1, b_within_1, b_list_1, b_left_1, b_reached_1, b_sizes_1, b_each_1, b_backRow_1, b_backPc_1, b_backNode_1, b_backPosition_1, b_backSize_1, b_output_1) => wY_misfit_213 post J x3 (nI i) r g_nodes_1 g_inner_1 g_rules_1 g_place_1 g_listed_1 g_depth_1 g_row_1 g_pc_1 g_node_1 g_position_1 g_size_1 g_fault_1 g_put_1 g_steps_1 b_name_1 b_parent_1 b_value_1 b_kind_1 b_with_1 b_count_1 b_bodyAt_1 b_priority_1 b_given_1 b_there_1 b_wanted_1 b_waiting_1 b_within_1 b_list_1 b_left_1 b_reached_1 b_sizes_1 b_each_1 b_backRow_1 b_backPc_1 b_backNode_1 b_backPosition_1 b_backSize_1 b_output_1) (g_nodes, g_inner, g_rules, g_place, g_listed, g_depth, g_row, g_pc, g_node, g_position, g_size, g_fault, g_put, g_steps, b_name, b_parent, b_value, b_kind, b_with, b_count, b_bodyAt, b_priority, b_given, b_there, b_wanted, b_waiting, b_within, b_list, b_left, b_reached, b_sizes, b_each, b_backRow, b_backPc, b_backNode, b_backPosition, b_backSize, b_output) (nI w0) (nI t) (nI (s.length + 1)) := by
  have c1 : (nI s.length).toNatClampNeg = s.length := nI_clamp (by omega)
  rw [gm_stP _ _ _ h01] at h0 h1
  by_cases h15 : t = 15
  · subst h15
    have s17 : wY_step_17 (fun r u => match u with | (g_nodes_1, g_inner_1, g_rules_1, g_place_1, g_listed_1, g_depth_1, g_row_1, g_pc_1, g_node_1, g_position_1, g_size_1, g_fault_1, g_put_1, g_steps_1, b_name_1, b_parent_1, b_value_1, b_kind_1, b_with_1, b_count_1, b_bodyAt_1, b_priority_1, b_given_1, b_there_1, b_wanted_1, b_waiting_1, b_within_1, b_list_1, b_left_1, b_reached_1, b_sizes_1, b_each_1, b_backRow_1, b_backPc_1, b_backNode_1, b_backPosition_1, b_backSize_1, b_output_1) => wY_misfit_213 post J x3 (nI i) r g_nodes_1 g_inner_1 g_rules_1 g_place_1 g_listed_1 g_depth_1 g_row_1 g_pc_1 g_node_1 g_position_1 g_size_1 g_fault_1 g_put_1 g_steps_1 b_name_1 b_parent_1 b_value_1 b_kind_1 b_with_1 b_count_1 b_bodyAt_1 b_priority_1 b_given_1 b_there_1 b_wanted_1 b_waiting_1 b_within_1 b_list_1 b_left_1 b_reached_1 b_sizes_1 b_each_1 b_backRow_1 b_backPc_1 b_backNode_1 b_backPosition_1 b_backSize_1 b_output_1) (nI (s.length + 1)) g_nodes g_inner g_rules g_place g_listed g_depth g_row g_pc g_node g_position g_size g_fault g_put g_steps b_name b_parent b_value b_kind b_with b_count b_bodyAt b_priority b_given b_there b_wanted b_waiting b_within b_list b_left b_reached b_sizes b_each b_backRow b_backPc b_backNode b_backPosition b_backSize b_output := by
      unfold wY_step_17
      rw [nI_pred]
      refine ⟨yg_in (by omega), yg_in (by omega), nm_r (e' := upd b_wanted s.length (nI (w0 + 1))) ?_ (yg_213 (by omega) (h1 ((w0 + 1) :: s) rfl _ (sk_p hw.2)))⟩
      rw [c1, hw.1, nI_1, yw_nar (by omega)]
    refine br_t (by decide) ?_
    rcases h01 with rfl | rfl
    · exact br_t (by decide) s17
    · exact br_f (by decide) (br_t (by decide) s17)
  · refine br_f (fun z => h15 ((nI_eq (b := 15) (by omega) (by omega)).mp z)) (br_f (fun z => ?_) (yg_213F (h0 (if_neg h15) _)))
    have := (nI_eq (b := 4) (by omega) (by omega)).mp z
    omega
theorem yg_121 {post : Int32 → SY → Prop} {J : Int32 → Int32 → Int32 → Int32 → Int32 → Int32 → Int32 → Int32 → Int32 → Int32 → Int32 → Int32 → Int32 → Int32 → Int32 → Int32 → (Nat → Int32) → (Nat → Int32) → (Nat → Int32) → (Nat → Int32) → (Nat → Int32) → (Nat → Int32) → (Nat → Int32) → (Nat → Int32) → (Nat → Int32) → (Nat → Int32) → (Nat → Int32) → (Nat → Int32) → (Nat → Int32) → (Nat → Int32) → (Nat → Int32) → (Nat → Int32) → (Nat → Int32) → (Nat → Int32) → (Nat → Int32) → (Nat → Int32) → (Nat → Int32) → (Nat → Int32) → (Nat → Int32) → (Nat → Int32) → Prop} {x3 : Int32} {i t a : Nat} {s : List Nat} {z c : Bool} (ht : t < 100) (hs : s.length < 60) (hok : sk_ok z c (a :: s)) (hw : sk b_wanted (a :: s)) (h7 : ¬ (a = 7 ∧ t ≠ 15)) (h4 : ¬ (a = 4 ∧ t ≠ 15 ∧ t ≠ 16))
    (h0 : gm_st t (a :: s) = none → ∀ w', post (nI i) (g_nodes, g_inner, g_rules, g_place, g_listed, g_depth, g_row, g_pc, g_node, g_position, g_size, g_fault, g_put, g_steps, b_name, b_parent, b_value, b_kind, b_with, b_count, b_bodyAt, b_priority, b_given, b_there, w', b_waiting, b_within, b_list, b_left, b_reached, b_sizes, b_each, b_backRow, b_backPc, b_backNode, b_backPosition, b_backSize, b_output)) (h1 : ∀ s', gm_st t (a :: s) = some s' → ∀ w', sk w' s' → J (nI s'.length) (nI (i + 1)) g_nodes g_inner g_rules g_place g_listed g_depth g_row g_pc g_node g_position g_size g_fault g_put g_steps b_name b_parent b_value b_kind b_with b_count b_bodyAt b_priority b_given b_there w' b_waiting b_within b_list b_left b_reached b_sizes b_each b_backRow b_backPc b_backNode b_backPosition b_backSize b_output) :
    wY_misfit_121 post J (nI (a :: s).length) x3 (nI i) (nI t) g_nodes g_inner g_rules g_place g_listed g_depth g_row g_pc g_node g_position g_size g_fault g_put g_steps b_name b_parent b_value b_kind b_with b_count b_bodyAt b_priority b_given b_there b_wanted b_waiting b_within b_list b_left b_reached b_sizes b_each b_backRow b_backPc b_backNode b_backPosition b_backSize b_output := by
  have a8 := sk_ok8 hok a (List.mem_cons.mpr (Or.inl rfl))
  have eL : nI (a :: s).length = nI (s.length + 1) := rfl
  have e1 : nI (s.length + 1) - 1 = nI s.length := nI_pred _
  have c1 : (nI s.length).toNatClampNeg = s.length := nI_clamp (by omega)
  have hw1 := hw.1
  have hw2 := hw.2
  rw [eL]
  refine br_f (nI_ne0 (by omega) (by omega)) ?_
  rw [e1]
  refine ⟨yg_in (by omega), nm_r (e' := nI a) (by rw [c1]; exact hw1) ?_⟩
  rcases (show a = 0 ∨ a = 1 ∨ a = 2 ∨ a = 3 ∨ a = 4 ∨ a = 5 ∨ a = 6 ∨ a = 7 ∨ a = 8 by omega) with ha | ha | ha | ha | ha | ha | ha | ha | ha
  · subst ha
    refine br_f (by decide) ?_
    have hB := gm_stB t 0 s (by omega)
    exact yg_body (w0 := 0) (Or.inl rfl) ht hs hw (fun z => h0 (hB.trans z)) (fun s' z => h1 s' (hB.trans z))
  · subst ha
    refine br_f (by decide) ?_
    have hB := gm_stB t 1 s (by omega)
    exact yg_body (w0 := 1) (Or.inr rfl) ht hs hw (fun z => h0 (hB.trans z)) (fun s' z => h1 s' (hB.trans z))
  · subst ha
    exact br_t (by decide) (br_t (by decide) (yg_operand (w0 := 2) (Or.inl rfl) ht hs hw h0 h1))
  · subst ha
    exact br_t (by decide) (br_f (by decide) (br_f (by decide) (br_f (by decide) (yg_step3 (w0 := 3) (Or.inl rfl) ht hs hw h0 h1))))
  · subst ha
    refine br_t (by decide) (br_f (by decide) (br_f (by decide) (br_f (by decide) ?_)))
    rw [gm_st4] at h0 h1
    by_cases h15 : t = 15
    · subst h15
      exact br_t (by decide) (br_f (by decide) (br_f (by decide) (yg_213 (k := s.length + 1) (by omega) (h1 (4 :: s) rfl _ hw))))
    · have h16 : t = 16 := Classical.byContradiction fun q => h4 ⟨rfl, h15, q⟩
      subst h16
      have e2 : nI (s.length + 1) + 1 = nI (s.length + 2) := nI_1 _
      have e3 : nI (s.length + 1) + 2 = nI (s.length + 3) := nI_add (s.length + 1) 2
      refine br_f (by decide) (br_t (by decide) ⟨yg_in (by omega), nm_r (e' := upd b_wanted (s.length + 1) (nI 8)) (by rw [nI_clamp (by omega)]; exact congrArg _ (yg_nar (m := 8) (by omega))) ?_⟩)
      rw [e2, e3]
      refine ⟨yg_in (by omega), nm_r (e' := upd (upd b_wanted (s.length + 1) (nI 8)) (s.length + 2) (nI 5)) (by rw [nI_clamp (by omega)]; exact congrArg _ (yg_nar (m := 5) (by omega))) (yg_213 (by omega) (h1 (5 :: 8 :: 4 :: s) rfl _ ?_))⟩
      exact sk_p (s := 8 :: 4 :: s) (sk_p (s := 4 :: s) hw)
  · subst ha
    exact br_t (by decide) (br_f (by decide) (br_t (by decide) (yg_operand (w0 := 5) (Or.inr rfl) ht hs hw h0 h1)))
  · subst ha
    exact br_t (by decide) (br_f (by decide) (br_f (by decide) (br_f (by decide) (yg_step3 (w0 := 6) (Or.inr rfl) ht hs hw h0 h1))))
  · subst ha
    have h15 : t = 15 := Classical.byContradiction fun q => h7 ⟨rfl, q⟩
    subst h15
    rw [gm_st7] at h1
    exact br_t (by decide) (br_f (by decide) (br_f (by decide) (br_f (by decide) (br_t (by decide) (br_f (by decide) (br_f (by decide) (yg_213 (k := s.length + 1) (by omega) (h1 (7 :: s) rfl _ hw))))))))
  · subst ha
    rw [gm_st8] at h0 h1
    refine br_t (by decide) (br_f (by decide) (br_f (by decide) (br_t (by decide) (pk_eq t 17 (fun q => ?_) (fun q => yg_213F (h0 (if_neg q) _))))))
    exact yg_213 (by omega) (h1 s (if_pos q) _ hw2)
end
section
/-! the reference: misfit -/
variable {g_nodes g_inner g_rules g_place g_listed g_depth g_row g_pc g_node g_position g_size g_fault g_put g_steps : Int32} {b_name b_parent b_value b_kind b_with b_count b_bodyAt b_priority b_given b_there b_wanted b_waiting b_within b_list b_left b_reached b_sizes b_each b_backRow b_backPc b_backNode b_backPosition b_backSize b_output : Nat → Int32}
theorem yg_65 {post : Int32 → SY → Prop} {J : Int32 → Int32 → Int32 → Int32 → Int32 → Int32 → Int32 → Int32 → Int32 → Int32 → Int32 → Int32 → Int32 → Int32 → Int32 → Int32 → (Nat → Int32) → (Nat → Int32) → (Nat → Int32) → (Nat → Int32) → (Nat → Int32) → (Nat → Int32) → (Nat → Int32) → (Nat → Int32) → (Nat → Int32) → (Nat → Int32) → (Nat → Int32) → (Nat → Int32) → (Nat → Int32) → (Nat → Int32) → (Nat → Int32) → (Nat → Int32) → (Nat → Int32) → (Nat → Int32) → (Nat → Int32) → (Nat → Int32) → (Nat → Int32) → (Nat → Int32) → (Nat → Int32) → (Nat → Int32) → Prop} {x3 : Int32} {i t : Nat} {z : Bool} (ht : t < 100) : ∀ (s : List Nat) (c : Bool) (f : Nat) (w : Nat → Int32), sk_ok z c s → sk w s → s.length ≤ 60 → s.length < f →
    (gm_st t s = none → ∀ w', post (nI i) (g_nodes, g_inner, g_rules, g_place, g_listed, g_depth, g_row, g_pc, g_node, g_position, g_size, g_fault, g_put, g_steps, b_name, b_parent, b_value, b_kind, b_with, b_count, b_bodyAt, b_priority, b_given, b_there, w', b_waiting, b_within, b_list, b_left, b_reached, b_sizes, b_each, b_backRow, b_backPc, b_backNode, b_backPosition, b_backSize, b_output)) → (∀ s', gm_st t s = some s' → ∀ w', sk w' s' → J (nI s'.length) (nI (i + 1)) g_nodes g_inner g_rules g_place g_listed g_depth g_row g_pc g_node g_position g_size g_fault g_put g_steps b_name b_parent b_value b_kind b_with b_count b_bodyAt b_priority b_given b_there w' b_waiting b_within b_list b_left b_reached b_sizes b_each b_backRow b_backPc b_backNode b_backPosition b_backSize b_output) →
    wY_misfit_65 post J x3 (nI i) (nI t) g_nodes g_inner g_rules g_place g_listed g_depth g_row g_pc g_node g_position g_size g_fault g_put g_steps b_name b_parent b_value b_kind b_with b_count b_bodyAt b_priority b_given b_there w b_waiting b_within b_list b_left b_reached b_sizes b_each b_backRow b_backPc b_backNode b_backPosition b_backSize b_output f (nI s.length) := by
  intro s
  induction s with
  | nil =>
    intro c f w _ _ _ hf h0 _
    obtain ⟨f, rfl⟩ : ∃ x, f = x + 1 := ⟨f - 1, by omega⟩
    exact br_t (by decide) (br_t (by decide) (h0 rfl w))
  | cons a s ih =>
    intro c f w hok hw hl hf h0 h1
    obtain ⟨f, rfl⟩ : ∃ x, f = x + 1 := ⟨f - 1, by omega⟩
    have hl' : s.length + 1 ≤ 60 := hl
    have hf' : s.length + 1 < f + 1 := hf
    have e1 : nI (s.length + 1) - 1 = nI s.length := nI_pred _
    have c1 : (nI s.length).toNatClampNeg = s.length := nI_clamp (by omega)
    have a8 := sk_ok8 hok a (List.mem_cons.mpr (Or.inl rfl))
    have shape : (a = 4 ∨ a = 7) → sk_ok z c s := by
      intro h
      cases c
      · rcases hok with ⟨q, _⟩ | ⟨_, _, q⟩
        · omega
        · exact q
      · rcases hok with ⟨q, _⟩ | ⟨_, _, q⟩
        · omega
        · exact q
    have pop : (a = 4 ∨ a = 7) → gm_st t (a :: s) = gm_st t s → ∀ x2, x2 = nI (s.length + 1) + (-1) → wY_misfit_65 post J x3 (nI i) (nI t) g_nodes g_inner g_rules g_place g_listed g_depth g_row g_pc g_node g_position g_size g_fault g_put g_steps b_name b_parent b_value b_kind b_with b_count b_bodyAt b_priority b_given b_there w b_waiting b_within b_list b_left b_reached b_sizes b_each b_backRow b_backPc b_backNode b_backPosition b_backSize b_output f x2 := fun h e => nm_r (pk_m1 _) (ih c f w (shape h) hw.2 (by omega) (by omega) (fun q => h0 (e.trans q)) (fun s' q => h1 s' (e.trans q)))
    have w95 : ¬ (a = 4 ∧ t ≠ 15 ∧ t ≠ 16) → wY_misfit_95 post J (wY_misfit_65 post J x3 (nI i) (nI t) g_nodes g_inner g_rules g_place g_listed g_depth g_row g_pc g_node g_position g_size g_fault g_put g_steps b_name b_parent b_value b_kind b_with b_count b_bodyAt b_priority b_given b_there w b_waiting b_within b_list b_left b_reached b_sizes b_each b_backRow b_backPc b_backNode b_backPosition b_backSize b_output f) (nI (s.length + 1)) x3 (nI i) (nI t) g_nodes g_inner g_rules g_place g_listed g_depth g_row g_pc g_node g_position g_size g_fault g_put g_steps b_name b_parent b_value b_kind b_with b_count b_bodyAt b_priority b_given b_there w b_waiting b_within b_list b_left b_reached b_sizes b_each b_backRow b_backPc b_backNode b_backPosition b_backSize b_output := fun h4 => by
      have w121 : ¬ (a = 7 ∧ t ≠ 15) → wY_misfit_121 post J (nI (s.length + 1)) x3 (nI i) (nI t) g_nodes g_inner g_rules g_place g_listed g_depth g_row g_pc g_node g_position g_size g_fault g_put g_steps b_name b_parent b_value b_kind b_with b_count b_bodyAt b_priority b_given b_there w b_waiting b_within b_list b_left b_reached b_sizes b_each b_backRow b_backPc b_backNode b_backPosition b_backSize b_output := fun h7 => yg_121 (b_wanted := w) (s := s) (a := a) ht (by omega) hok hw h7 h4 h0 h1
      unfold wY_misfit_95
      rw [e1, c1, hw.1]
      refine ⟨yg_in (by omega), pk_eq a 7 (fun q => pk_eq t 15 (fun q2 => w121 (fun y => y.2 q2)) (fun q2 => pop (Or.inr q) ?_)) (fun q => w121 (fun y => q y.1))⟩
      rw [q, gm_st7, if_neg q2]
    show wY_misfit_65 post J x3 (nI i) (nI t) g_nodes g_inner g_rules g_place g_listed g_depth g_row g_pc g_node g_position g_size g_fault g_put g_steps b_name b_parent b_value b_kind b_with b_count b_bodyAt b_priority b_given b_there w b_waiting b_within b_list b_left b_reached b_sizes b_each b_backRow b_backPc b_backNode b_backPosition b_backSize b_output (f + 1) (nI (s.length + 1))
    refine br_f (nI_nle (by omega) (by omega)) ?_
    rw [e1, c1, hw.1]
    refine ⟨yg_in (by omega), pk_eq a 4 (fun q => pk_eq t 15 (fun q2 => w95 (fun y => y.2.1 q2)) (fun q2 => pk_eq t 16 (fun q3 => w95 (fun y => y.2.2 q3)) (fun q3 => pop (Or.inl q) ?_))) (fun q => w95 (fun y => q y.1))⟩
    rw [q, gm_st4, if_neg q2, if_neg q3]
theorem yg_227 {post : Int32 → SY → Prop} {x3 : Int32} {z : Bool} : ∀ (s : List Nat) (c : Bool) (f : Nat), sk_ok z c s → sk b_wanted s → s.length ≤ 62 → s.length < f →
    ((∀ v, v ∈ s → v = 0 ∨ v = 4 ∨ v = 7) → post (-1) (g_nodes, g_inner, g_rules, g_place, g_listed, g_depth, g_row, g_pc, g_node, g_position, g_size, g_fault, g_put, g_steps, b_name, b_parent, b_value, b_kind, b_with, b_count, b_bodyAt, b_priority, b_given, b_there, b_wanted, b_waiting, b_within, b_list, b_left, b_reached, b_sizes, b_each, b_backRow, b_backPc, b_backNode, b_backPosition, b_backSize, b_output)) → (¬ (∀ v, v ∈ s → v = 0 ∨ v = 4 ∨ v = 7) → post x3 (g_nodes, g_inner, g_rules, g_place, g_listed, g_depth, g_row, g_pc, g_node, g_position, g_size, g_fault, g_put, g_steps, b_name, b_parent, b_value, b_kind, b_with, b_count, b_bodyAt, b_priority, b_given, b_there, b_wanted, b_waiting, b_within, b_list, b_left, b_reached, b_sizes, b_each, b_backRow, b_backPc, b_backNode, b_backPosition, b_backSize, b_output)) → wY_misfit_227 post x3 g_nodes g_inner g_rules g_place g_listed g_depth g_row g_pc g_node g_position g_size g_fault g_put g_steps b_name b_parent b_value b_kind b_with b_count b_bodyAt b_priority b_given b_there b_wanted b_waiting b_within b_list b_left b_reached b_sizes b_each b_backRow b_backPc b_backNode b_backPosition b_backSize b_output f (nI s.length) := by
  intro s
  induction s with
  | nil =>
    intro c f _ _ _ hf h1 _
    obtain ⟨f, rfl⟩ : ∃ x, f = x + 1 := ⟨f - 1, by omega⟩
    exact br_t (by decide) (br_t (by decide) (br_f (by decide) (h1 fun v hv => absurd hv (by simp))))
  | cons a s ih =>
    intro c f hok hw hl hf h1 h0
    obtain ⟨f, rfl⟩ : ∃ x, f = x + 1 := ⟨f - 1, by omega⟩
    have hl' : s.length + 1 ≤ 62 := hl
    have hf' : s.length + 1 < f + 1 := hf
    have e1 : nI (s.length + 1) - 1 = nI s.length := nI_pred _
    have c1 : (nI s.length).toNatClampNeg = s.length := nI_clamp (by omega)
    have a8 := sk_ok8 hok a (List.mem_cons.mpr (Or.inl rfl))
    have shape : (a = 4 ∨ a = 7) → sk_ok z c s := by
      intro h
      cases c
      · rcases hok with ⟨q, _⟩ | ⟨_, _, q⟩
        · omega
        · exact q
      · rcases hok with ⟨q, _⟩ | ⟨_, _, q⟩
        · omega
        · exact q
    have gd : (a = 4 ∨ a = 7) → ((∀ v, v ∈ a :: s → v = 0 ∨ v = 4 ∨ v = 7) ↔ ∀ v, v ∈ s → v = 0 ∨ v = 4 ∨ v = 7) := fun h => by
      constructor
      · exact fun q v hv => q v (List.mem_cons.mpr (Or.inr hv))
      · intro q v hv
        rcases List.mem_cons.mp hv with e | e
        · omega
        · exact q v e
    have pop : (a = 4 ∨ a = 7) → ∀ x2, x2 = nI (s.length + 1) + (-1) → wY_misfit_227 post x3 g_nodes g_inner g_rules g_place g_listed g_depth g_row g_pc g_node g_position g_size g_fault g_put g_steps b_name b_parent b_value b_kind b_with b_count b_bodyAt b_priority b_given b_there b_wanted b_waiting b_within b_list b_left b_reached b_sizes b_each b_backRow b_backPc b_backNode b_backPosition b_backSize b_output f x2 := fun h => nm_r (pk_m1 _) (ih c f (shape h) hw.2 (by omega) (by omega) (fun q => h1 ((gd h).mpr q)) (fun q => h0 (fun y => q ((gd h).mp y))))
    show wY_misfit_227 post x3 g_nodes g_inner g_rules g_place g_listed g_depth g_row g_pc g_node g_position g_size g_fault g_put g_steps b_name b_parent b_value b_kind b_with b_count b_bodyAt b_priority b_given b_there b_wanted b_waiting b_within b_list b_left b_reached b_sizes b_each b_backRow b_backPc b_backNode b_backPosition b_backSize b_output (f + 1) (nI (s.length + 1))
    refine br_f (nI_nle (by omega) (by omega)) ?_
    rw [e1, c1, hw.1]
    refine ⟨yg_in (by omega), pk_eq a 4 (fun q => pop (Or.inl q)) (fun q4 => ⟨yg_in (by omega), pk_eq a 7 (fun q => pop (Or.inr q)) (fun q7 => ?_)⟩)⟩
    by_cases ha : a = 0
    · have sn : s = [] := by
        cases c
        · rcases hok with ⟨_, q, _⟩ | ⟨q, _⟩
          · exact q
          · omega
        · rcases hok with ⟨q, _⟩ | ⟨q, _⟩ <;> omega
      subst sn ha
      have w0 : b_wanted 0 = 0 := hw.1
      exact br_f (by decide) (br_t (by decide) (br_t w0 (br_f (by decide) (h1 fun v hv => Or.inl (by simpa using hv)))))
    · have bad : ¬ (∀ v, v ∈ a :: s → v = 0 ∨ v = 4 ∨ v = 7) := fun q => by
        have := q a (List.mem_cons.mpr (Or.inl rfl)); omega
      refine br_f (nI_ne0 (by omega) (by omega)) (pk_eq (s.length + 1) 1 (fun q => ?_) (fun _ => br_t rfl (h0 bad)))
      have s0 : s.length = 0 := by omega
      have w0 : b_wanted 0 = nI a := by rw [← s0]; exact hw.1
      rw [w0]
      exact pk_eq a 0 (fun y => absurd y ha) (fun _ => br_t rfl (h0 bad))
theorem yg_46 {post : Int32 → SY → Prop} {K : Nat → Nat} {O : Nat → Int32} {len : Nat} {z : Bool} (hl : len ≤ 30) (hk : ys_k b_kind b_with 180 K O len) (h100 : ∀ i, i < len → K i < 100) :
    ∀ d i s c f w, i + d = len → d < f → sk_ok z c s → sk w s → s.length ≤ 2 + 2 * i → (gm_run K d i s = none → ∀ w', post (-1) (g_nodes, g_inner, g_rules, g_place, g_listed, g_depth, g_row, g_pc, g_node, g_position, g_size, g_fault, g_put, g_steps, b_name, b_parent, b_value, b_kind, b_with, b_count, b_bodyAt, b_priority, b_given, b_there, w', b_waiting, b_within, b_list, b_left, b_reached, b_sizes, b_each, b_backRow, b_backPc, b_backNode, b_backPosition, b_backSize, b_output)) → (∀ p, gm_run K d i s = some p → ∀ w', post (nI p) (g_nodes, g_inner, g_rules, g_place, g_listed, g_depth, g_row, g_pc, g_node, g_position, g_size, g_fault, g_put, g_steps, b_name, b_parent, b_value, b_kind, b_with, b_count, b_bodyAt, b_priority, b_given, b_there, w', b_waiting, b_within, b_list, b_left, b_reached, b_sizes, b_each, b_backRow, b_backPc, b_backNode, b_backPosition, b_backSize, b_output)) →
      wY_misfit_46 post (nI len) f (nI s.length) (nI i) g_nodes g_inner g_rules g_place g_listed g_depth g_row g_pc g_node g_position g_size g_fault g_put g_steps b_name b_parent b_value b_kind b_with b_count b_bodyAt b_priority b_given b_there w b_waiting b_within b_list b_left b_reached b_sizes b_each b_backRow b_backPc b_backNode b_backPosition b_backSize b_output := by
  intro d
  induction d with
  | zero =>
    intro i s c f w hi hf hok hw hs hN hS
    obtain ⟨f, rfl⟩ : ∃ x, f = x + 1 := ⟨f - 1, by omega⟩
    have e : i = len := by omega
    subst e
    rw [gm_run] at hN hS
    exact br_t (nI_le (Nat.le_refl _) (by omega)) ⟨s.length + 1, yg_227 (b_wanted := w) s c _ hok hw (by omega) (by omega) (fun q => hN (if_pos q) _) (fun q => hS i (if_neg q) _)⟩
  | succ d ih =>
    intro i s c f w hi hf hok hw hs hN hS
    obtain ⟨f, rfl⟩ : ∃ x, f = x + 1 := ⟨f - 1, by omega⟩
    have e180 : (180 : Int32) + nI i = nI (180 + i) := nI_add 180 i
    rw [gm_run] at hN hS
    refine br_f (nI_ge (by omega) (by omega)) ⟨by rw [e180]; exact vp_in_nI (by omega) (by omega), nm_r (e' := nI (K i)) (by rw [e180, nI_clamp (by omega)]; exact (hk i (by omega)).1) ⟨s.length + 1, yg_65 (h100 i (by omega)) s c _ w hok hw (by omega) (by omega) (fun q w' => ?_) (fun s' q w' hw' => ?_)⟩⟩
    · rw [q] at hS
      exact hS i rfl w'
    · rw [q] at hN hS
      obtain ⟨c2, hok2, hlen⟩ := sk_st hok q
      exact ih (i + 1) s' c2 f w' (by omega) (by omega) hok2 hw' (by omega) hN hS
theorem yg_misfit0 {post : Int32 → SY → Prop} {K : Nat → Nat} {O : Nat → Int32} {len : Nat} (hl : len ≤ 30) (hk : ys_k b_kind b_with 180 K O len) (hc : b_count 6 = nI len) (h100 : ∀ i, i < len → K i < 100) (hN : gm_run K len 0 [3, 0] = none → ∀ w', post (-1) (g_nodes, g_inner, g_rules, g_place, g_listed, g_depth, g_row, g_pc, g_node, g_position, g_size, g_fault, g_put, g_steps, b_name, b_parent, b_value, b_kind, b_with, b_count, b_bodyAt, b_priority, b_given, b_there, w', b_waiting, b_within, b_list, b_left, b_reached, b_sizes, b_each, b_backRow, b_backPc, b_backNode, b_backPosition, b_backSize, b_output)) (hS : ∀ p, gm_run K len 0 [3, 0] = some p → ∀ w', post (nI p) (g_nodes, g_inner, g_rules, g_place, g_listed, g_depth, g_row, g_pc, g_node, g_position, g_size, g_fault, g_put, g_steps, b_name, b_parent, b_value, b_kind, b_with, b_count, b_bodyAt, b_priority, b_given, b_there, w', b_waiting, b_within, b_list, b_left, b_reached, b_sizes, b_each, b_backRow, b_backPc, b_backNode, b_backPosition, b_backSize, b_output)) : wpY_misfit post (g_nodes, g_inner, g_rules, g_place, g_listed, g_depth, g_row, g_pc, g_node, g_position, g_size, g_fault, g_put, g_steps, b_name, b_parent, b_value, b_kind, b_with, b_count, b_bodyAt, b_priority, b_given, b_there, b_wanted, b_waiting, b_within, b_list, b_left, b_reached, b_sizes, b_each, b_backRow, b_backPc, b_backNode, b_backPosition, b_backSize, b_output) 0 := by
  have n0 : vp_nar .byte 0 = nI 0 := yg_nar (m := 0) (by omega)
  have n3 : vp_nar .byte ((3 : Int32).toInt8.toInt32) = nI 3 := yw_nar (m := 3) (by omega)
  refine br_t rfl (nm_r (e' := nI 1) rfl (nm_r (e' := upd b_wanted 0 (nI 0)) (by rw [n0]) (nm_r (e' := nI 2) rfl (br_t rfl ⟨yg_in (k := 1) (by omega), nm_r (e' := upd (upd b_wanted 0 (nI 0)) 1 (nI 3)) ?_ (nm_r (e' := nI len) hc ⟨len + 1, ?_⟩)⟩))))
  · rw [n3]; rfl
  · exact yg_46 (z := true) hl hk h100 len 0 [3, 0] false (len + 1) _ (by omega) (by omega) (by simp [sk_ok, sk_out]) ⟨pk_us, pk_un (by decide), trivial⟩ (by simp) hN hS
theorem yg_misfit1 {post : Int32 → SY → Prop} {K : Nat → Nat} {O : Nat → Int32} {len v : Nat} (hv : v = 2 ∨ v = 3) (hl : len ≤ 30) (hk : ys_k b_kind b_with 180 K O len) (hc : b_count 6 = nI len) (h100 : ∀ i, i < len → K i < 100) (hN : gm_run K len 0 [v] = none → ∀ w', post (-1) (g_nodes, g_inner, g_rules, g_place, g_listed, g_depth, g_row, g_pc, g_node, g_position, g_size, g_fault, g_put, g_steps, b_name, b_parent, b_value, b_kind, b_with, b_count, b_bodyAt, b_priority, b_given, b_there, w', b_waiting, b_within, b_list, b_left, b_reached, b_sizes, b_each, b_backRow, b_backPc, b_backNode, b_backPosition, b_backSize, b_output)) (hS : ∀ p, gm_run K len 0 [v] = some p → ∀ w', post (nI p) (g_nodes, g_inner, g_rules, g_place, g_listed, g_depth, g_row, g_pc, g_node, g_position, g_size, g_fault, g_put, g_steps, b_name, b_parent, b_value, b_kind, b_with, b_count, b_bodyAt, b_priority, b_given, b_there, w', b_waiting, b_within, b_list, b_left, b_reached, b_sizes, b_each, b_backRow, b_backPc, b_backNode, b_backPosition, b_backSize, b_output)) : wpY_misfit post (g_nodes, g_inner, g_rules, g_place, g_listed, g_depth, g_row, g_pc, g_node, g_position, g_size, g_fault, g_put, g_steps, b_name, b_parent, b_value, b_kind, b_with, b_count, b_bodyAt, b_priority, b_given, b_there, b_wanted, b_waiting, b_within, b_list, b_left, b_reached, b_sizes, b_each, b_backRow, b_backPc, b_backNode, b_backPosition, b_backSize, b_output) (nI v) := by
  have nv : vp_nar .byte (nI v).toInt8.toInt32 = nI v := yw_nar (by omega)
  have n0 : ¬ nI v = 0 := nI_ne0 (by omega) (by omega)
  refine br_f n0 (nm_r (e' := nI 1) rfl (br_f n0 ⟨yg_in (k := 0) (by omega), nm_r (e' := upd b_wanted 0 (nI v)) ?_ (nm_r (e' := nI len) hc ⟨len + 1, ?_⟩)⟩))
  · rw [nv]; rfl
  · refine yg_46 (z := false) hl hk h100 len 0 [v] false (len + 1) _ (by omega) (by omega) ?_ ⟨pk_us, trivial⟩ (by simp) hN hS
    rcases hv with rfl | rfl <;> simp [sk_ok, sk_out]
end
section
/-! the relation -/
/-- a slot: the same tokens on both sides -/
def rl_S (a_kinds a_operands b_kind b_with : Nat → Int32) (K : Nat → Nat → Nat) (len : Nat → Nat) (r : Nat) : Prop :=
  len r ≤ 30 ∧ (∀ i, len r ≤ i → K r i = 27) ∧ xs_k a_kinds (32 * r) (K r) ∧ ys_k b_kind b_with (30 * r) (K r) (fun x => a_operands (32 * r + x)) (len r) ∧
  ∀ i, i < len r → K r i ≤ 26 ∧ (K r i = 15 → ∃ v, v < 72 ∧ v % 8 < 7 ∧ a_operands (32 * r + i) = nI v)
/-- a rule: absent on both sides, or an allowed text -/
def rl_R (k : Nat) (K : Nat → Nat → Nat) (len : Nat → Nat) (a_givenAt b_count b_bodyAt b_given b_there : Nat → Int32) (r : Nat) : Prop :=
  (b_there r = 0 ∧ len r = 0) ∨
  (b_there r = 1 ∧ gm_W (K r) (len r) ∧ K r 0 = 15 ∧ 0 < len r ∧ gm_bp (K r) (len r) (gm_e (K r) 0) ∧ b_count r = nI (len r) ∧ b_bodyAt r = nI (gm_e (K r) 0) ∧ ∃ q, q ≤ k ∧ a_givenAt r = nI q ∧ b_given r = nI (q + 1))
def rl (k n : Nat) (K : Nat → Nat → Nat) (len : Nat → Nat) (g : Nat) (inn : Int32) (a_names a_parents a_kinds a_operands a_givenAt b_kind b_with b_count b_bodyAt b_given b_there : Nat → Int32) : Prop :=
  tr_T a_parents n ∧ (∀ i, i < n → ∃ t, t < 6 ∧ a_names i = nI t) ∧ (inn = -1 ∨ ∃ i, i < n ∧ inn = nI i) ∧ g ≤ k ∧ b_count 6 = nI (len 6) ∧
  (∀ r, r < 7 → rl_S a_kinds a_operands b_kind b_with K len r) ∧ (∀ r, r < 6 → rl_R k K len a_givenAt b_count b_bodyAt b_given b_there r)
def i_Rel (k : Nat) (u : SX) (v : SY) : Prop :=
  ∃ (n : Nat) (K : Nat → Nat → Nat) (len : Nat → Nat) (g : Nat) (f_innermost f_wrongToken f_wantedCount f_inCondition f_depth f_cursor f_outcome f_outputCount f_stepsTaken : Int32) (a_names a_values a_parents a_kinds a_operands a_priorities a_givenAt a_wanted a_axes a_passing a_ends a_openers a_table a_results a_matched a_listLeft a_listNode a_listPosition a_listSize a_listBody a_listReturn a_outputs : Nat → Int32) (g_listed g_depth g_row g_pc g_node g_position g_size g_fault : Int32) (b_kind b_with b_count b_bodyAt b_given b_there b_wanted b_waiting b_within b_list b_left b_reached b_sizes b_each b_backRow b_backPc b_backNode b_backPosition b_backSize : Nat → Int32), u = (nI n, f_innermost, nI (len 6), nI g, f_wrongToken, f_wantedCount, f_inCondition, f_depth, f_cursor, f_outcome, f_outputCount, f_stepsTaken, a_names, a_values, a_parents, a_kinds, a_operands, a_priorities, a_givenAt, a_wanted, a_axes, a_passing, a_ends, a_openers, a_table, a_results, a_matched, a_listLeft, a_listNode, a_listPosition, a_listSize, a_listBody, a_listReturn, a_outputs) ∧ v = (nI n, f_innermost, nI g, f_wrongToken, g_listed, g_depth, g_row, g_pc, g_node, g_position, g_size, g_fault, f_outputCount, f_stepsTaken, a_names, a_parents, a_values, b_kind, b_with, b_count, b_bodyAt, a_priorities, b_given, b_there, b_wanted, b_waiting, b_within, b_list, b_left, b_reached, b_sizes, b_each, b_backRow, b_backPc, b_backNode, b_backPosition, b_backSize, a_outputs) ∧ rl k n K len g f_innermost a_names a_parents a_kinds a_operands a_givenAt b_kind b_with b_count b_bodyAt b_given b_there
section
variable {n : Nat} {K : Nat → Nat → Nat} {len : Nat → Nat} {g : Nat} {f_innermost f_wrongToken f_wantedCount f_inCondition f_depth f_cursor f_outcome f_outputCount f_stepsTaken : Int32} {a_names a_values a_parents a_kinds a_operands a_priorities a_givenAt a_wanted a_axes a_passing a_ends a_openers a_table a_results a_matched a_listLeft a_listNode a_listPosition a_listSize a_listBody a_listReturn a_outputs : Nat → Int32} {g_listed g_depth g_row g_pc g_node g_position g_size g_fault : Int32} {b_kind b_with b_count b_bodyAt b_given b_there b_wanted b_waiting b_within b_list b_left b_reached b_sizes b_each b_backRow b_backPc b_backNode b_backPosition b_backSize : Nat → Int32}
theorem i_mk {k : Nat} (h : rl k n K len g f_innermost a_names a_parents a_kinds a_operands a_givenAt b_kind b_with b_count b_bodyAt b_given b_there) : i_Rel k (nI n, f_innermost, nI (len 6), nI g, f_wrongToken, f_wantedCount, f_inCondition, f_depth, f_cursor, f_outcome, f_outputCount, f_stepsTaken, a_names, a_values, a_parents, a_kinds, a_operands, a_priorities, a_givenAt, a_wanted, a_axes, a_passing, a_ends, a_openers, a_table, a_results, a_matched, a_listLeft, a_listNode, a_listPosition, a_listSize, a_listBody, a_listReturn, a_outputs) (nI n, f_innermost, nI g, f_wrongToken, g_listed, g_depth, g_row, g_pc, g_node, g_position, g_size, g_fault, f_outputCount, f_stepsTaken, a_names, a_parents, a_values, b_kind, b_with, b_count, b_bodyAt, a_priorities, b_given, b_there, b_wanted, b_waiting, b_within, b_list, b_left, b_reached, b_sizes, b_each, b_backRow, b_backPc, b_backNode, b_backPosition, b_backSize, a_outputs) := ⟨n, K, len, g, f_innermost, f_wrongToken, f_wantedCount, f_inCondition, f_depth, f_cursor, f_outcome, f_outputCount, f_stepsTaken, a_names, a_values, a_parents, a_kinds, a_operands, a_priorities, a_givenAt, a_wanted, a_axes, a_passing, a_ends, a_openers, a_table, a_results, a_matched, a_listLeft, a_listNode, a_listPosition, a_listSize, a_listBody, a_listReturn, a_outputs, g_listed, g_depth, g_row, g_pc, g_node, g_position, g_size, g_fault, b_kind, b_with, b_count, b_bodyAt, b_given, b_there, b_wanted, b_waiting, b_within, b_list, b_left, b_reached, b_sizes, b_each, b_backRow, b_backPc, b_backNode, b_backPosition, b_backSize, rfl, rfl, h⟩
theorem rl_up {k k' : Nat} (hk : k ≤ k') (h : rl k n K len g f_innermost a_names a_parents a_kinds a_operands a_givenAt b_kind b_with b_count b_bodyAt b_given b_there) : rl k' n K len g f_innermost a_names a_parents a_kinds a_operands a_givenAt b_kind b_with b_count b_bodyAt b_given b_there := by
  obtain ⟨h1, h2, h3, h4, h5, h6, h7⟩ := h
  refine ⟨h1, h2, h3, by omega, h5, h6, fun r hr => ?_⟩
  rcases h7 r hr with z | ⟨z1, z2, z3, z4, z5, z6, z7, q, hq, z8⟩
  · exact Or.inl z
  · exact Or.inr ⟨z1, z2, z3, z4, z5, z6, z7, q, by omega, z8⟩
end
theorem i_elim {k : Nat} {u : SX} {v : SY} {Q : SX → SY → Prop} (I : i_Rel k u v) (h : ∀ (n : Nat) (K : Nat → Nat → Nat) (len : Nat → Nat) (g : Nat) (f_innermost f_wrongToken f_wantedCount f_inCondition f_depth f_cursor f_outcome f_outputCount f_stepsTaken : Int32) (a_names a_values a_parents a_kinds a_operands a_priorities a_givenAt a_wanted a_axes a_passing a_ends a_openers a_table a_results a_matched a_listLeft a_listNode a_listPosition a_listSize a_listBody a_listReturn a_outputs : Nat → Int32) (g_listed g_depth g_row g_pc g_node g_position g_size g_fault : Int32) (b_kind b_with b_count b_bodyAt b_given b_there b_wanted b_waiting b_within b_list b_left b_reached b_sizes b_each b_backRow b_backPc b_backNode b_backPosition b_backSize : Nat → Int32), rl k n K len g f_innermost a_names a_parents a_kinds a_operands a_givenAt b_kind b_with b_count b_bodyAt b_given b_there → Q (nI n, f_innermost, nI (len 6), nI g, f_wrongToken, f_wantedCount, f_inCondition, f_depth, f_cursor, f_outcome, f_outputCount, f_stepsTaken, a_names, a_values, a_parents, a_kinds, a_operands, a_priorities, a_givenAt, a_wanted, a_axes, a_passing, a_ends, a_openers, a_table, a_results, a_matched, a_listLeft, a_listNode, a_listPosition, a_listSize, a_listBody, a_listReturn, a_outputs) (nI n, f_innermost, nI g, f_wrongToken, g_listed, g_depth, g_row, g_pc, g_node, g_position, g_size, g_fault, f_outputCount, f_stepsTaken, a_names, a_parents, a_values, b_kind, b_with, b_count, b_bodyAt, a_priorities, b_given, b_there, b_wanted, b_waiting, b_within, b_list, b_left, b_reached, b_sizes, b_each, b_backRow, b_backPc, b_backNode, b_backPosition, b_backSize, a_outputs)) : Q u v := by
  obtain ⟨n, K, len, g, f_innermost, f_wrongToken, f_wantedCount, f_inCondition, f_depth, f_cursor, f_outcome, f_outputCount, f_stepsTaken, a_names, a_values, a_parents, a_kinds, a_operands, a_priorities, a_givenAt, a_wanted, a_axes, a_passing, a_ends, a_openers, a_table, a_results, a_matched, a_listLeft, a_listNode, a_listPosition, a_listSize, a_listBody, a_listReturn, a_outputs, g_listed, g_depth, g_row, g_pc, g_node, g_position, g_size, g_fault, b_kind, b_with, b_count, b_bodyAt, b_given, b_there, b_wanted, b_waiting, b_within, b_list, b_left, b_reached, b_sizes, b_each, b_backRow, b_backPc, b_backNode, b_backPosition, b_backSize, rfl, rfl, R⟩ := I
  exact h _ _ _ _ _ _ _ _ _ _ _ _ _ _ _ _ _ _ _ _ _ _ _ _ _ _ _ _ _ _ _ _ _ _ _ _ _ _ _ _ _ _ _ _ _ _ _ _ _ _ _ _ _ _ _ _ _ _ _ _ _ _ R
theorem i_up {k : Nat} {u : SX} {v : SY} (h : i_Rel k u v) : i_Rel (k + 4) u v := by
  refine i_elim h ?_
  intro n K len g f_innermost f_wrongToken f_wantedCount f_inCondition f_depth f_cursor f_outcome f_outputCount f_stepsTaken a_names a_values a_parents a_kinds a_operands a_priorities a_givenAt a_wanted a_axes a_passing a_ends a_openers a_table a_results a_matched a_listLeft a_listNode a_listPosition a_listSize a_listBody a_listReturn a_outputs g_listed g_depth g_row g_pc g_node g_position g_size g_fault b_kind b_with b_count b_bodyAt b_given b_there b_wanted b_waiting b_within b_list b_left b_reached b_sizes b_each b_backRow b_backPc b_backNode b_backPosition b_backSize R
  exact i_mk (K := K) (rl_up (k := k) (by omega) R)
section
variable {f_nodeCount f_innermost f_draftLength f_rulesGiven f_wrongToken f_wantedCount f_inCondition f_depth f_cursor f_outcome f_outputCount f_stepsTaken : Int32} {a_names a_values a_parents a_kinds a_operands a_priorities a_givenAt a_wanted a_axes a_passing a_ends a_openers a_table a_results a_matched a_listLeft a_listNode a_listPosition a_listSize a_listBody a_listReturn a_outputs : Nat → Int32}
theorem xo_init {post : SX → Prop} (hp : ∀ A : Nat → Int32, (∀ i, i < 224 → A i = 27) → post (f_nodeCount, f_innermost, f_draftLength, f_rulesGiven, f_wrongToken, f_wantedCount, f_inCondition, f_depth, f_cursor, f_outcome, f_outputCount, f_stepsTaken, a_names, a_values, a_parents, A, a_operands, a_priorities, a_givenAt, a_wanted, a_axes, a_passing, a_ends, a_openers, a_table, a_results, a_matched, a_listLeft, a_listNode, a_listPosition, a_listSize, a_listBody, a_listReturn, a_outputs)) : ∀ d i f A, i + d = 224 → d < f → (∀ j, j < i → A j = 27) → wX_init_200 post f_nodeCount f_innermost f_draftLength f_rulesGiven f_wrongToken f_wantedCount f_inCondition f_depth f_cursor f_outcome f_outputCount f_stepsTaken f (nI i) a_names a_values a_parents A a_operands a_priorities a_givenAt a_wanted a_axes a_passing a_ends a_openers a_table a_results a_matched a_listLeft a_listNode a_listPosition a_listSize a_listBody a_listReturn a_outputs := by
  intro d
  induction d with
  | zero =>
    intro i f A hi hf h
    obtain ⟨f, rfl⟩ : ∃ x, f = x + 1 := ⟨f - 1, by omega⟩
    have e : i = 224 := by omega
    subst e
    exact br_t (by decide) (hp A h)
  | succ d ih =>
    intro i f A hi hf h
    obtain ⟨f, rfl⟩ : ∃ x, f = x + 1 := ⟨f - 1, by omega⟩
    refine br_f (nI_ge (b := 224) (by omega) (by decide)) ⟨vp_in_nI (by omega) (by omega), nm_r (e' := upd A i 27) (by rw [nI_clamp (by omega)]) (nm_r (nI_1 i) (ih (i + 1) f _ (by omega) (by omega) fun j hj => ?_))⟩
    rcases Nat.lt_or_ge j i with z | z
    · rw [pk_un (by omega)]; exact h j z
    · have : j = i := by omega
      rw [this, pk_us]
end
theorem i_vc0 : wpX_init (fun u => wpY_init (fun v => i_Rel 0 u v)) := by
  refine ⟨225, xo_init (fun A hA => ?_) 224 0 225 _ rfl (by omega) (fun j hj => absurd hj (by omega))⟩
  refine i_mk (n := 0) (K := fun _ _ => 27) (len := fun _ => 0) (g := 0) (k := 0) ?_
  refine ⟨⟨by omega, fun i hi => absurd hi (by omega)⟩, fun i hi => absurd hi (by omega), Or.inl rfl, Nat.le_refl _, rfl, fun r hr => ⟨Nat.zero_le 30, fun _ _ => rfl, fun x hx => hA _ (by omega), fun x hx => absurd hx (Nat.not_lt_zero _), fun i hi => absurd hi (Nat.not_lt_zero _)⟩, fun r hr => Or.inl ⟨rfl, rfl⟩⟩
end
section
/-! the simple methods -/
theorem so_name (x : Int32) : (x < 0 ∨ nI 6 ≤ x) ∨ ∃ j : Nat, j < 6 ∧ x = nI j := by
  rcases pk_ix x (n := 6) (by omega) with h | h | h
  · exact Or.inl (Or.inl h)
  · exact Or.inl (Or.inr h)
  · exact Or.inr h
section
variable {f_nodeCount f_innermost f_draftLength f_rulesGiven f_wrongToken f_wantedCount f_inCondition f_depth f_cursor f_outcome f_outputCount f_stepsTaken : Int32} {a_names a_values a_parents a_kinds a_operands a_priorities a_givenAt a_wanted a_axes a_passing a_ends a_openers a_table a_results a_matched a_listLeft a_listNode a_listPosition a_listSize a_listBody a_listReturn a_outputs : Nat → Int32}
theorem xo_nameF {post : Int32 → Prop} {x : Int32} (h : x < 0 ∨ nI 6 ≤ x) (hp : post 0) : wpX_isName post (f_nodeCount, f_innermost, f_draftLength, f_rulesGiven, f_wrongToken, f_wantedCount, f_inCondition, f_depth, f_cursor, f_outcome, f_outputCount, f_stepsTaken, a_names, a_values, a_parents, a_kinds, a_operands, a_priorities, a_givenAt, a_wanted, a_axes, a_passing, a_ends, a_openers, a_table, a_results, a_matched, a_listLeft, a_listNode, a_listPosition, a_listSize, a_listBody, a_listReturn, a_outputs) x :=
  br_c (fun _ => hp) (fun z => h.elim (fun y => absurd y z) (fun y => br_t y hp))
theorem xo_nameT {post : Int32 → Prop} {t : Nat} (h : t < 6) (hp : post 1) : wpX_isName post (f_nodeCount, f_innermost, f_draftLength, f_rulesGiven, f_wrongToken, f_wantedCount, f_inCondition, f_depth, f_cursor, f_outcome, f_outputCount, f_stepsTaken, a_names, a_values, a_parents, a_kinds, a_operands, a_priorities, a_givenAt, a_wanted, a_axes, a_passing, a_ends, a_openers, a_table, a_results, a_matched, a_listLeft, a_listNode, a_listPosition, a_listSize, a_listBody, a_listReturn, a_outputs) (nI t) :=
  br_f (nI_pos (by omega)) (br_f (nI_ge (b := 6) h (by omega)) hp)
theorem xo_ruleF {post : Int32 → Prop} {x : Int32} (h : x < 0 ∨ nI 6 ≤ x) (hp : post 0) : wpX_isRule post (f_nodeCount, f_innermost, f_draftLength, f_rulesGiven, f_wrongToken, f_wantedCount, f_inCondition, f_depth, f_cursor, f_outcome, f_outputCount, f_stepsTaken, a_names, a_values, a_parents, a_kinds, a_operands, a_priorities, a_givenAt, a_wanted, a_axes, a_passing, a_ends, a_openers, a_table, a_results, a_matched, a_listLeft, a_listNode, a_listPosition, a_listSize, a_listBody, a_listReturn, a_outputs) x :=
  br_c (fun _ => hp) (fun z => h.elim (fun y => absurd y z) (fun y => br_t y hp))
theorem xo_ruleT {post : Int32 → Prop} {t : Nat} (h : t < 6) (hp : post 1) : wpX_isRule post (f_nodeCount, f_innermost, f_draftLength, f_rulesGiven, f_wrongToken, f_wantedCount, f_inCondition, f_depth, f_cursor, f_outcome, f_outputCount, f_stepsTaken, a_names, a_values, a_parents, a_kinds, a_operands, a_priorities, a_givenAt, a_wanted, a_axes, a_passing, a_ends, a_openers, a_table, a_results, a_matched, a_listLeft, a_listNode, a_listPosition, a_listSize, a_listBody, a_listReturn, a_outputs) (nI t) :=
  br_f (nI_pos (by omega)) (br_f (nI_ge (b := 6) h (by omega)) hp)
theorem xo_nodeF {post : Int32 → Prop} {x : Int32} {n : Nat} (h : x < 0 ∨ nI n ≤ x) (hp : post 0) : wpX_isNode post (nI n, f_innermost, f_draftLength, f_rulesGiven, f_wrongToken, f_wantedCount, f_inCondition, f_depth, f_cursor, f_outcome, f_outputCount, f_stepsTaken, a_names, a_values, a_parents, a_kinds, a_operands, a_priorities, a_givenAt, a_wanted, a_axes, a_passing, a_ends, a_openers, a_table, a_results, a_matched, a_listLeft, a_listNode, a_listPosition, a_listSize, a_listBody, a_listReturn, a_outputs) x :=
  br_c (fun _ => hp) (fun z => h.elim (fun y => absurd y z) (fun y => br_t y hp))
theorem xo_nodeT {post : Int32 → Prop} {t n : Nat} (h : t < n) (hn : n ≤ 24) (hp : post 1) : wpX_isNode post (nI n, f_innermost, f_draftLength, f_rulesGiven, f_wrongToken, f_wantedCount, f_inCondition, f_depth, f_cursor, f_outcome, f_outputCount, f_stepsTaken, a_names, a_values, a_parents, a_kinds, a_operands, a_priorities, a_givenAt, a_wanted, a_axes, a_passing, a_ends, a_openers, a_table, a_results, a_matched, a_listLeft, a_listNode, a_listPosition, a_listSize, a_listBody, a_listReturn, a_outputs) (nI t) :=
  br_f (nI_pos (by omega)) (br_f (nI_ge h (by omega)) hp)
end
theorem yo_outF {post : Int32 → Prop} {x : Int32} {n : Nat} (h : x < 0 ∨ nI n ≤ x) (hp : post 1) : wpY_out post x (nI n) :=
  br_c (fun _ => hp) (fun z => h.elim (fun y => absurd y z) (fun y => br_f (Int32.not_lt.mpr y) hp))
theorem yo_outT {post : Int32 → Prop} {t n : Nat} (h : t < n) (hn : n < 2 ^ 31) (hp : post 0) : wpY_out post (nI t) (nI n) :=
  br_f (nI_pos (by omega)) (br_t (nI_lt h hn) hp)
theorem so_ix (x : Int32) (n : Nat) (hn : n < 2 ^ 31) : (x < 0 ∨ nI n ≤ x) ∨ ∃ j : Nat, j < n ∧ x = nI j := by
  rcases pk_ix x hn with h | h | h
  · exact Or.inl (Or.inl h)
  · exact Or.inl (Or.inr h)
  · exact Or.inr h
section
variable {g_nodes g_inner g_rules g_place g_listed g_depth g_row g_pc g_node g_position g_size g_fault g_put g_steps : Int32} {b_name b_parent b_value b_kind b_with b_count b_bodyAt b_priority b_given b_there b_wanted b_waiting b_within b_list b_left b_reached b_sizes b_each b_backRow b_backPc b_backNode b_backPosition b_backSize b_output : Nat → Int32}
theorem yo_outputF {post : Int32 → Prop} {v1 : Int32} (h : v1 < 0 ∨ nI 60 ≤ v1) (hp : post 0) : wpY_output post (g_nodes, g_inner, g_rules, g_place, g_listed, g_depth, g_row, g_pc, g_node, g_position, g_size, g_fault, g_put, g_steps, b_name, b_parent, b_value, b_kind, b_with, b_count, b_bodyAt, b_priority, b_given, b_there, b_wanted, b_waiting, b_within, b_list, b_left, b_reached, b_sizes, b_each, b_backRow, b_backPc, b_backNode, b_backPosition, b_backSize, b_output) v1 := by
  unfold wpY_output
  exact yo_outF (n := 60) h (br_f (by decide) hp)
theorem yo_outputT {post : Int32 → Prop} {j : Nat} (hj : j < 60) (h1 : nI j < g_put → post (b_output j)) (h0 : ¬ nI j < g_put → post 0) : wpY_output post (g_nodes, g_inner, g_rules, g_place, g_listed, g_depth, g_row, g_pc, g_node, g_position, g_size, g_fault, g_put, g_steps, b_name, b_parent, b_value, b_kind, b_with, b_count, b_bodyAt, b_priority, b_given, b_there, b_wanted, b_waiting, b_within, b_list, b_left, b_reached, b_sizes, b_each, b_backRow, b_backPc, b_backNode, b_backPosition, b_backSize, b_output) (nI j) := by
  unfold wpY_output
  refine yo_outT (n := 60) hj (by omega) (br_t rfl (br_c (fun h => ⟨vp_in_nI hj (by omega), ?_⟩) h0))
  rw [nI_clamp (by omega)]
  exact h1 h
end
theorem i_vc_size {k : Nat} {u : SX} {v : SY} (I : i_Rel k u v) (hk : k + 4 ≤ 2048) : wpX_size (fun r => wpY_size (fun r' => r' = r ∧ i_Rel (k + 4) u v) v) u := by
  have J := i_up I
  revert J
  refine i_elim (Q := fun u v => i_Rel (k + 4) u v → wpX_size (fun r => wpY_size (fun r' => r' = r ∧ i_Rel (k + 4) u v) v) u) I ?_
  intro n K len g f_innermost f_wrongToken f_wantedCount f_inCondition f_depth f_cursor f_outcome f_outputCount f_stepsTaken a_names a_values a_parents a_kinds a_operands a_priorities a_givenAt a_wanted a_axes a_passing a_ends a_openers a_table a_results a_matched a_listLeft a_listNode a_listPosition a_listSize a_listBody a_listReturn a_outputs g_listed g_depth g_row g_pc g_node g_position g_size g_fault b_kind b_with b_count b_bodyAt b_given b_there b_wanted b_waiting b_within b_list b_left b_reached b_sizes b_each b_backRow b_backPc b_backNode b_backPosition b_backSize R J
  exact ⟨rfl, J⟩
theorem i_vc_steps {k : Nat} {u : SX} {v : SY} (I : i_Rel k u v) (hk : k + 4 ≤ 2048) : wpX_steps (fun r => wpY_steps (fun r' => r' = r ∧ i_Rel (k + 4) u v) v) u := by
  have J := i_up I
  revert J
  refine i_elim (Q := fun u v => i_Rel (k + 4) u v → wpX_steps (fun r => wpY_steps (fun r' => r' = r ∧ i_Rel (k + 4) u v) v) u) I ?_
  intro n K len g f_innermost f_wrongToken f_wantedCount f_inCondition f_depth f_cursor f_outcome f_outputCount f_stepsTaken a_names a_values a_parents a_kinds a_operands a_priorities a_givenAt a_wanted a_axes a_passing a_ends a_openers a_table a_results a_matched a_listLeft a_listNode a_listPosition a_listSize a_listBody a_listReturn a_outputs g_listed g_depth g_row g_pc g_node g_position g_size g_fault b_kind b_with b_count b_bodyAt b_given b_there b_wanted b_waiting b_within b_list b_left b_reached b_sizes b_each b_backRow b_backPc b_backNode b_backPosition b_backSize R J
  exact ⟨rfl, J⟩
theorem i_vc_place {k : Nat} {u : SX} {v : SY} (I : i_Rel k u v) (hk : k + 4 ≤ 2048) : wpX_place (fun r => wpY_place (fun r' => r' = r ∧ i_Rel (k + 4) u v) v) u := by
  have J := i_up I
  revert J
  refine i_elim (Q := fun u v => i_Rel (k + 4) u v → wpX_place (fun r => wpY_place (fun r' => r' = r ∧ i_Rel (k + 4) u v) v) u) I ?_
  intro n K len g f_innermost f_wrongToken f_wantedCount f_inCondition f_depth f_cursor f_outcome f_outputCount f_stepsTaken a_names a_values a_parents a_kinds a_operands a_priorities a_givenAt a_wanted a_axes a_passing a_ends a_openers a_table a_results a_matched a_listLeft a_listNode a_listPosition a_listSize a_listBody a_listReturn a_outputs g_listed g_depth g_row g_pc g_node g_position g_size g_fault b_kind b_with b_count b_bodyAt b_given b_there b_wanted b_waiting b_within b_list b_left b_reached b_sizes b_each b_backRow b_backPc b_backNode b_backPosition b_backSize R J
  exact ⟨rfl, J⟩
theorem i_vc_output {k : Nat} {u : SX} {v : SY} (I : i_Rel k u v) (hk : k + 4 ≤ 2048) (v1 : Int32) : wpX_output (fun r => wpY_output (fun r' => r' = r ∧ i_Rel (k + 4) u v) v v1) u v1 := by
  have J := i_up I
  revert J
  refine i_elim (Q := fun u v => i_Rel (k + 4) u v → wpX_output (fun r => wpY_output (fun r' => r' = r ∧ i_Rel (k + 4) u v) v v1) u v1) I ?_
  intro n K len g f_innermost f_wrongToken f_wantedCount f_inCondition f_depth f_cursor f_outcome f_outputCount f_stepsTaken a_names a_values a_parents a_kinds a_operands a_priorities a_givenAt a_wanted a_axes a_passing a_ends a_openers a_table a_results a_matched a_listLeft a_listNode a_listPosition a_listSize a_listBody a_listReturn a_outputs g_listed g_depth g_row g_pc g_node g_position g_size g_fault b_kind b_with b_count b_bodyAt b_given b_there b_wanted b_waiting b_within b_list b_left b_reached b_sizes b_each b_backRow b_backPc b_backNode b_backPosition b_backSize R J
  rcases so_ix v1 60 (by omega) with h | ⟨j, hj, rfl⟩
  · have Y0 : wpY_output (fun r' => r' = 0 ∧ i_Rel (k + 4) (nI n, f_innermost, nI (len 6), nI g, f_wrongToken, f_wantedCount, f_inCondition, f_depth, f_cursor, f_outcome, f_outputCount, f_stepsTaken, a_names, a_values, a_parents, a_kinds, a_operands, a_priorities, a_givenAt, a_wanted, a_axes, a_passing, a_ends, a_openers, a_table, a_results, a_matched, a_listLeft, a_listNode, a_listPosition, a_listSize, a_listBody, a_listReturn, a_outputs) (nI n, f_innermost, nI g, f_wrongToken, g_listed, g_depth, g_row, g_pc, g_node, g_position, g_size, g_fault, f_outputCount, f_stepsTaken, a_names, a_parents, a_values, b_kind, b_with, b_count, b_bodyAt, a_priorities, b_given, b_there, b_wanted, b_waiting, b_within, b_list, b_left, b_reached, b_sizes, b_each, b_backRow, b_backPc, b_backNode, b_backPosition, b_backSize, a_outputs)) (nI n, f_innermost, nI g, f_wrongToken, g_listed, g_depth, g_row, g_pc, g_node, g_position, g_size, g_fault, f_outputCount, f_stepsTaken, a_names, a_parents, a_values, b_kind, b_with, b_count, b_bodyAt, a_priorities, b_given, b_there, b_wanted, b_waiting, b_within, b_list, b_left, b_reached, b_sizes, b_each, b_backRow, b_backPc, b_backNode, b_backPosition, b_backSize, a_outputs) v1 := yo_outputF h ⟨rfl, J⟩
    rcases h with h | h
    · exact br_t h (Y0)
    · exact br_c (fun _ => Y0) (fun _ => br_t h (Y0))
  · have cj : (nI j).toNatClampNeg = j := nI_clamp (by omega)
    refine br_f (nI_pos (by omega)) (br_f (nI_ge (b := 60) hj (by omega)) (br_c (fun h => ⟨vp_in_nI hj (by omega), ?_⟩) (fun h => ?_)))
    · exact yo_outputT hj (fun _ => by rw [cj]; exact ⟨rfl, J⟩) (fun z => absurd h z)
    · exact yo_outputT hj (fun z => absurd z h) (fun _ => ⟨rfl, J⟩)
theorem i_vc_clear {k : Nat} {u : SX} {v : SY} (I : i_Rel k u v) (hk : k + 4 ≤ 2048) : wpX_clear (fun r u' => wpY_clear (fun r' v' => r' = r ∧ i_Rel (k + 4) u' v') v) u := by
  refine i_elim (Q := fun u v => wpX_clear (fun r u' => wpY_clear (fun r' v' => r' = r ∧ i_Rel (k + 4) u' v') v) u) I ?_
  intro n K len g f_innermost f_wrongToken f_wantedCount f_inCondition f_depth f_cursor f_outcome f_outputCount f_stepsTaken a_names a_values a_parents a_kinds a_operands a_priorities a_givenAt a_wanted a_axes a_passing a_ends a_openers a_table a_results a_matched a_listLeft a_listNode a_listPosition a_listSize a_listBody a_listReturn a_outputs g_listed g_depth g_row g_pc g_node g_position g_size g_fault b_kind b_with b_count b_bodyAt b_given b_there b_wanted b_waiting b_within b_list b_left b_reached b_sizes b_each b_backRow b_backPc b_backNode b_backPosition b_backSize R
  obtain ⟨h1, h2, h3, h4, h5, h6, h7⟩ := rl_up (k' := k + 4) (by omega) R
  exact ⟨rfl, i_mk (K := K) (n := 0) ⟨⟨by omega, fun i hi => absurd hi (by omega)⟩, fun i hi => absurd hi (by omega), Or.inl rfl, h4, h5, h6, h7⟩⟩
theorem i_vc_close {k : Nat} {u : SX} {v : SY} (I : i_Rel k u v) (hk : k + 4 ≤ 2048) : wpX_close (fun r u' => wpY_close (fun r' v' => r' = r ∧ i_Rel (k + 4) u' v') v) u := by
  refine i_elim (Q := fun u v => wpX_close (fun r u' => wpY_close (fun r' v' => r' = r ∧ i_Rel (k + 4) u' v') v) u) I ?_
  intro n K len g f_innermost f_wrongToken f_wantedCount f_inCondition f_depth f_cursor f_outcome f_outputCount f_stepsTaken a_names a_values a_parents a_kinds a_operands a_priorities a_givenAt a_wanted a_axes a_passing a_ends a_openers a_table a_results a_matched a_listLeft a_listNode a_listPosition a_listSize a_listBody a_listReturn a_outputs g_listed g_depth g_row g_pc g_node g_position g_size g_fault b_kind b_with b_count b_bodyAt b_given b_there b_wanted b_waiting b_within b_list b_left b_reached b_sizes b_each b_backRow b_backPc b_backNode b_backPosition b_backSize R
  obtain ⟨h1, h2, h3, h4, h5, h6, h7⟩ := rl_up (k' := k + 4) (by omega) R
  have hn := h1.1
  rcases h3 with rfl | ⟨i, hi, rfl⟩
  · exact br_f (by decide) (br_f (by decide) ⟨rfl, i_mk (K := K) ⟨h1, h2, Or.inl rfl, h4, h5, h6, h7⟩⟩)
  · have ci : (nI i).toNatClampNeg = i := nI_clamp (by omega)
    have pi : a_parents i = -1 ∨ ∃ j, j < n ∧ a_parents i = nI j := by
      rcases h1.2 i hi with ⟨_, e⟩ | ⟨_, p, hp, e⟩
      · exact Or.inl e
      · exact Or.inr ⟨p, by omega, e⟩
    exact br_t (nI_pos' (by omega)) ⟨vp_in_nI (by omega) (by omega), nm_r (e' := a_parents i) (by rw [ci]) (br_t (nI_pos' (by omega)) ⟨vp_in_nI (by omega) (by omega), nm_r (e' := a_parents i) (by rw [ci]) ⟨rfl, i_mk (K := K) ⟨h1, h2, pi, h4, h5, h6, h7⟩⟩⟩)⟩
end
section
/-! open and relabel -/
section
variable {f_nodeCount f_innermost f_draftLength f_rulesGiven f_wrongToken f_wantedCount f_inCondition f_depth f_cursor f_outcome f_outputCount f_stepsTaken : Int32} {a_names a_values a_parents a_kinds a_operands a_priorities a_givenAt a_wanted a_axes a_passing a_ends a_openers a_table a_results a_matched a_listLeft a_listNode a_listPosition a_listSize a_listBody a_listReturn a_outputs : Nat → Int32}
theorem xo_19F {post : Int32 → SX → Prop} {n : Nat} {v1 v2 z0 : Int32} (hn : n ≤ 24) (h : (v1 < 0 ∨ nI 6 ≤ v1) ∨ n = 24 ∨ z0 ≠ 0) (hp : post (-1) (nI n, f_innermost, f_draftLength, f_rulesGiven, f_wrongToken, f_wantedCount, f_inCondition, f_depth, f_cursor, f_outcome, f_outputCount, f_stepsTaken, a_names, a_values, a_parents, a_kinds, a_operands, a_priorities, a_givenAt, a_wanted, a_axes, a_passing, a_ends, a_openers, a_table, a_results, a_matched, a_listLeft, a_listNode, a_listPosition, a_listSize, a_listBody, a_listReturn, a_outputs)) : wX_open_19 post v1 v2 z0 (nI n) f_innermost f_draftLength f_rulesGiven f_wrongToken f_wantedCount f_inCondition f_depth f_cursor f_outcome f_outputCount f_stepsTaken a_names a_values a_parents a_kinds a_operands a_priorities a_givenAt a_wanted a_axes a_passing a_ends a_openers a_table a_results a_matched a_listLeft a_listNode a_listPosition a_listSize a_listBody a_listReturn a_outputs := by
  unfold wX_open_19
  rcases so_name v1 with q | ⟨t, ht, rfl⟩
  · exact xo_nameF q (br_t rfl hp)
  · refine xo_nameT ht (br_f (by decide) (pk_le 24 n (fun _ => hp) (fun y => br_f ?_ hp)))
    rcases h with q | q | q
    · rcases q with q | q
      · exact absurd q (nI_pos (by omega))
      · exact absurd q (nI_ge ht (by omega))
    · omega
    · exact q
theorem xo_19T {post : Int32 → SX → Prop} {n t : Nat} {v2 : Int32} (hn : n < 24) (ht : t < 6) (hp : post (nI n) (nI (n + 1), nI n, f_draftLength, f_rulesGiven, f_wrongToken, f_wantedCount, f_inCondition, f_depth, f_cursor, f_outcome, f_outputCount, f_stepsTaken, upd a_names n (nI t), upd a_values n v2, upd a_parents n f_innermost, a_kinds, a_operands, a_priorities, a_givenAt, a_wanted, a_axes, a_passing, a_ends, a_openers, a_table, a_results, a_matched, a_listLeft, a_listNode, a_listPosition, a_listSize, a_listBody, a_listReturn, a_outputs)) : wX_open_19 post (nI t) v2 0 (nI n) f_innermost f_draftLength f_rulesGiven f_wrongToken f_wantedCount f_inCondition f_depth f_cursor f_outcome f_outputCount f_stepsTaken a_names a_values a_parents a_kinds a_operands a_priorities a_givenAt a_wanted a_axes a_passing a_ends a_openers a_table a_results a_matched a_listLeft a_listNode a_listPosition a_listSize a_listBody a_listReturn a_outputs := by
  unfold wX_open_19
  have cn : (nI n).toNatClampNeg = n := nI_clamp (by omega)
  have vi : vp_in (nI n) 24 := vp_in_nI hn (by omega)
  refine xo_nameT ht (br_f (by decide) (br_f (nI_ge (b := 24) hn (by omega)) (br_t rfl ⟨vi, nm_r (e' := upd a_names n (nI t)) (by rw [cn]) ⟨vi, nm_r (e' := upd a_values n v2) (by rw [cn]) ⟨vi, nm_r (e' := upd a_parents n f_innermost) (by rw [cn]) (nm_r (nI_1 n) hp)⟩⟩⟩)))
theorem xo_openF {post : Int32 → SX → Prop} {n : Nat} {v1 v2 : Int32} (hn : n ≤ 24) (h : (v1 < 0 ∨ nI 6 ≤ v1) ∨ n = 24 ∨ (0 < n ∧ f_innermost < 0)) (hp : post (-1) (nI n, f_innermost, f_draftLength, f_rulesGiven, f_wrongToken, f_wantedCount, f_inCondition, f_depth, f_cursor, f_outcome, f_outputCount, f_stepsTaken, a_names, a_values, a_parents, a_kinds, a_operands, a_priorities, a_givenAt, a_wanted, a_axes, a_passing, a_ends, a_openers, a_table, a_results, a_matched, a_listLeft, a_listNode, a_listPosition, a_listSize, a_listBody, a_listReturn, a_outputs)) : wpX_open post (nI n, f_innermost, f_draftLength, f_rulesGiven, f_wrongToken, f_wantedCount, f_inCondition, f_depth, f_cursor, f_outcome, f_outputCount, f_stepsTaken, a_names, a_values, a_parents, a_kinds, a_operands, a_priorities, a_givenAt, a_wanted, a_axes, a_passing, a_ends, a_openers, a_table, a_results, a_matched, a_listLeft, a_listNode, a_listPosition, a_listSize, a_listBody, a_listReturn, a_outputs) v1 v2 := by
  refine pk_le n 0 (fun q => ?_) (fun q => br_c (fun y => ?_) (fun y => ?_))
  · refine xo_19F (z0 := 0) hn ?_ hp
    rcases h with h | h | h
    · exact Or.inl h
    · exact Or.inr (Or.inl h)
    · omega
  · refine xo_19F (z0 := 0) hn ?_ hp
    rcases h with h | h | h
    · exact Or.inl h
    · exact Or.inr (Or.inl h)
    · exact absurd h.2 (Int32.not_lt.mpr y)
  · exact xo_19F hn (Or.inr (Or.inr (by decide))) hp
theorem xo_openT {post : Int32 → SX → Prop} {n t : Nat} {v2 : Int32} (hn : n < 24) (ht : t < 6) (h : n = 0 ∨ ¬ f_innermost < 0) (hp : post (nI n) (nI (n + 1), nI n, f_draftLength, f_rulesGiven, f_wrongToken, f_wantedCount, f_inCondition, f_depth, f_cursor, f_outcome, f_outputCount, f_stepsTaken, upd a_names n (nI t), upd a_values n v2, upd a_parents n f_innermost, a_kinds, a_operands, a_priorities, a_givenAt, a_wanted, a_axes, a_passing, a_ends, a_openers, a_table, a_results, a_matched, a_listLeft, a_listNode, a_listPosition, a_listSize, a_listBody, a_listReturn, a_outputs)) : wpX_open post (nI n, f_innermost, f_draftLength, f_rulesGiven, f_wrongToken, f_wantedCount, f_inCondition, f_depth, f_cursor, f_outcome, f_outputCount, f_stepsTaken, a_names, a_values, a_parents, a_kinds, a_operands, a_priorities, a_givenAt, a_wanted, a_axes, a_passing, a_ends, a_openers, a_table, a_results, a_matched, a_listLeft, a_listNode, a_listPosition, a_listSize, a_listBody, a_listReturn, a_outputs) (nI t) v2 := by
  refine pk_le n 0 (fun q => xo_19T hn ht hp) (fun q => ?_)
  rcases h with h | h
  · omega
  · exact br_t (Int32.not_lt.mp h) (xo_19T hn ht hp)
theorem xo_relabelF {post : Int32 → SX → Prop} {n : Nat} {v1 v2 v3 : Int32} (hn : n ≤ 24) (h : (v1 < 0 ∨ nI n ≤ v1) ∨ (v2 < 0 ∨ nI 6 ≤ v2)) (hp : post 0 (nI n, f_innermost, f_draftLength, f_rulesGiven, f_wrongToken, f_wantedCount, f_inCondition, f_depth, f_cursor, f_outcome, f_outputCount, f_stepsTaken, a_names, a_values, a_parents, a_kinds, a_operands, a_priorities, a_givenAt, a_wanted, a_axes, a_passing, a_ends, a_openers, a_table, a_results, a_matched, a_listLeft, a_listNode, a_listPosition, a_listSize, a_listBody, a_listReturn, a_outputs)) : wpX_relabel post (nI n, f_innermost, f_draftLength, f_rulesGiven, f_wrongToken, f_wantedCount, f_inCondition, f_depth, f_cursor, f_outcome, f_outputCount, f_stepsTaken, a_names, a_values, a_parents, a_kinds, a_operands, a_priorities, a_givenAt, a_wanted, a_axes, a_passing, a_ends, a_openers, a_table, a_results, a_matched, a_listLeft, a_listNode, a_listPosition, a_listSize, a_listBody, a_listReturn, a_outputs) v1 v2 v3 := by
  unfold wpX_relabel
  rcases so_ix v1 n (by omega) with q | ⟨j, hj, rfl⟩
  · exact xo_nodeF q (br_t rfl hp)
  · rcases h with h | h
    · rcases h with h | h
      · exact absurd h (nI_pos (by omega))
      · exact absurd h (nI_ge hj (by omega))
    · exact xo_nodeT hj hn (br_f (by decide) (xo_nameF h (br_t rfl hp)))
theorem xo_relabelT {post : Int32 → SX → Prop} {n j t : Nat} {v3 : Int32} (hn : n ≤ 24) (hj : j < n) (ht : t < 6) (hp : post 1 (nI n, f_innermost, f_draftLength, f_rulesGiven, f_wrongToken, f_wantedCount, f_inCondition, f_depth, f_cursor, f_outcome, f_outputCount, f_stepsTaken, upd a_names j (nI t), upd a_values j v3, a_parents, a_kinds, a_operands, a_priorities, a_givenAt, a_wanted, a_axes, a_passing, a_ends, a_openers, a_table, a_results, a_matched, a_listLeft, a_listNode, a_listPosition, a_listSize, a_listBody, a_listReturn, a_outputs)) : wpX_relabel post (nI n, f_innermost, f_draftLength, f_rulesGiven, f_wrongToken, f_wantedCount, f_inCondition, f_depth, f_cursor, f_outcome, f_outputCount, f_stepsTaken, a_names, a_values, a_parents, a_kinds, a_operands, a_priorities, a_givenAt, a_wanted, a_axes, a_passing, a_ends, a_openers, a_table, a_results, a_matched, a_listLeft, a_listNode, a_listPosition, a_listSize, a_listBody, a_listReturn, a_outputs) (nI j) (nI t) v3 := by
  unfold wpX_relabel
  have cj : (nI j).toNatClampNeg = j := nI_clamp (by omega)
  have vi : vp_in (nI j) 24 := vp_in_nI (by omega) (by omega)
  exact xo_nodeT hj hn (br_f (by decide) (xo_nameT ht (br_f (by decide) ⟨vi, nm_r (e' := upd a_names j (nI t)) (by rw [cj]) ⟨vi, nm_r (e' := upd a_values j v3) (by rw [cj]) hp⟩⟩)))
end
section
variable {g_nodes g_inner g_rules g_place g_listed g_depth g_row g_pc g_node g_position g_size g_fault g_put g_steps : Int32} {b_name b_parent b_value b_kind b_with b_count b_bodyAt b_priority b_given b_there b_wanted b_waiting b_within b_list b_left b_reached b_sizes b_each b_backRow b_backPc b_backNode b_backPosition b_backSize b_output : Nat → Int32}
theorem yo_openF {post : Int32 → SY → Prop} {n : Nat} {v1 v2 : Int32} (hn : n ≤ 24) (h : (v1 < 0 ∨ nI 6 ≤ v1) ∨ n = 24 ∨ (0 < n ∧ g_inner < 0)) (hp : post (-1) (nI n, g_inner, g_rules, g_place, g_listed, g_depth, g_row, g_pc, g_node, g_position, g_size, g_fault, g_put, g_steps, b_name, b_parent, b_value, b_kind, b_with, b_count, b_bodyAt, b_priority, b_given, b_there, b_wanted, b_waiting, b_within, b_list, b_left, b_reached, b_sizes, b_each, b_backRow, b_backPc, b_backNode, b_backPosition, b_backSize, b_output)) : wpY_open post (nI n, g_inner, g_rules, g_place, g_listed, g_depth, g_row, g_pc, g_node, g_position, g_size, g_fault, g_put, g_steps, b_name, b_parent, b_value, b_kind, b_with, b_count, b_bodyAt, b_priority, b_given, b_there, b_wanted, b_waiting, b_within, b_list, b_left, b_reached, b_sizes, b_each, b_backRow, b_backPc, b_backNode, b_backPosition, b_backSize, b_output) v1 v2 := by
  unfold wpY_open
  rcases so_name v1 with q | ⟨t, ht, rfl⟩
  · exact yo_outF (n := 6) q (br_f (by decide) hp)
  · refine yo_outT (n := 6) ht (by omega) (br_t rfl (pk_eq n 24 (fun _ => hp) (fun y => ?_)))
    rcases h with q | q | q
    · rcases q with q | q
      · exact absurd q (nI_pos (by omega))
      · exact absurd q (nI_ge ht (by omega))
    · omega
    · exact pk_le n 0 (fun z => absurd z (by omega)) (fun _ => br_f (Int32.not_le.mpr q.2) hp)
theorem yo_openT {post : Int32 → SY → Prop} {n t : Nat} {v2 : Int32} (hn : n < 24) (ht : t < 6) (h : n = 0 ∨ ¬ g_inner < 0) (hi : vp_nar .byte g_inner.toInt8.toInt32 = g_inner) (hp : post (nI n) (nI (n + 1), nI n, g_rules, g_place, g_listed, g_depth, g_row, g_pc, g_node, g_position, g_size, g_fault, g_put, g_steps, upd b_name n (nI t), upd b_parent n g_inner, upd b_value n v2, b_kind, b_with, b_count, b_bodyAt, b_priority, b_given, b_there, b_wanted, b_waiting, b_within, b_list, b_left, b_reached, b_sizes, b_each, b_backRow, b_backPc, b_backNode, b_backPosition, b_backSize, b_output)) : wpY_open post (nI n, g_inner, g_rules, g_place, g_listed, g_depth, g_row, g_pc, g_node, g_position, g_size, g_fault, g_put, g_steps, b_name, b_parent, b_value, b_kind, b_with, b_count, b_bodyAt, b_priority, b_given, b_there, b_wanted, b_waiting, b_within, b_list, b_left, b_reached, b_sizes, b_each, b_backRow, b_backPc, b_backNode, b_backPosition, b_backSize, b_output) (nI t) v2 := by
  unfold wpY_open
  have cn : (nI n).toNatClampNeg = n := nI_clamp (by omega)
  have vi : vp_in (nI n) 24 := vp_in_nI hn (by omega)
  have w34 : wY_open_34 post (nI t) v2 (nI n) g_inner g_rules g_place g_listed g_depth g_row g_pc g_node g_position g_size g_fault g_put g_steps b_name b_parent b_value b_kind b_with b_count b_bodyAt b_priority b_given b_there b_wanted b_waiting b_within b_list b_left b_reached b_sizes b_each b_backRow b_backPc b_backNode b_backPosition b_backSize b_output := ⟨vi, nm_r (e' := upd b_name n (nI t)) (by rw [cn, yw_nar (by omega)]) ⟨vi, nm_r (e' := upd b_value n v2) (by rw [cn]) ⟨vi, nm_r (e' := upd b_parent n g_inner) (by rw [cn, hi]) (nm_r (nI_1 n) hp)⟩⟩⟩
  refine yo_outT (n := 6) ht (by omega) (br_t rfl (pk_eq n 24 (fun z => absurd z (by omega)) (fun _ => pk_le n 0 (fun _ => w34) (fun q => ?_))))
  rcases h with h | h
  · omega
  · exact br_t (Int32.not_lt.mp h) w34
theorem yo_relabelF {post : Int32 → SY → Prop} {n : Nat} {v1 v2 v3 : Int32} (hn : n ≤ 24) (h : (v1 < 0 ∨ nI n ≤ v1) ∨ (v2 < 0 ∨ nI 6 ≤ v2)) (hp : post 0 (nI n, g_inner, g_rules, g_place, g_listed, g_depth, g_row, g_pc, g_node, g_position, g_size, g_fault, g_put, g_steps, b_name, b_parent, b_value, b_kind, b_with, b_count, b_bodyAt, b_priority, b_given, b_there, b_wanted, b_waiting, b_within, b_list, b_left, b_reached, b_sizes, b_each, b_backRow, b_backPc, b_backNode, b_backPosition, b_backSize, b_output)) : wpY_relabel post (nI n, g_inner, g_rules, g_place, g_listed, g_depth, g_row, g_pc, g_node, g_position, g_size, g_fault, g_put, g_steps, b_name, b_parent, b_value, b_kind, b_with, b_count, b_bodyAt, b_priority, b_given, b_there, b_wanted, b_waiting, b_within, b_list, b_left, b_reached, b_sizes, b_each, b_backRow, b_backPc, b_backNode, b_backPosition, b_backSize, b_output) v1 v2 v3 := by
  unfold wpY_relabel
  rcases so_ix v1 n (by omega) with q | ⟨j, hj, rfl⟩
  · exact yo_outF q (br_f (by decide) hp)
  · rcases h with h | h
    · rcases h with h | h
      · exact absurd h (nI_pos (by omega))
      · exact absurd h (nI_ge hj (by omega))
    · exact yo_outT hj (by omega) (br_t rfl (yo_outF (n := 6) h (br_f (by decide) hp)))
theorem yo_relabelT {post : Int32 → SY → Prop} {n j t : Nat} {v3 : Int32} (hn : n ≤ 24) (hj : j < n) (ht : t < 6) (hp : post 1 (nI n, g_inner, g_rules, g_place, g_listed, g_depth, g_row, g_pc, g_node, g_position, g_size, g_fault, g_put, g_steps, upd b_name j (nI t), b_parent, upd b_value j v3, b_kind, b_with, b_count, b_bodyAt, b_priority, b_given, b_there, b_wanted, b_waiting, b_within, b_list, b_left, b_reached, b_sizes, b_each, b_backRow, b_backPc, b_backNode, b_backPosition, b_backSize, b_output)) : wpY_relabel post (nI n, g_inner, g_rules, g_place, g_listed, g_depth, g_row, g_pc, g_node, g_position, g_size, g_fault, g_put, g_steps, b_name, b_parent, b_value, b_kind, b_with, b_count, b_bodyAt, b_priority, b_given, b_there, b_wanted, b_waiting, b_within, b_list, b_left, b_reached, b_sizes, b_each, b_backRow, b_backPc, b_backNode, b_backPosition, b_backSize, b_output) (nI j) (nI t) v3 := by
  unfold wpY_relabel
  have cj : (nI j).toNatClampNeg = j := nI_clamp (by omega)
  have vi : vp_in (nI j) 24 := vp_in_nI (by omega) (by omega)
  exact yo_outT hj (by omega) (br_t rfl (yo_outT (n := 6) ht (by omega) (br_t rfl ⟨vi, nm_r (e' := upd b_name j (nI t)) (by rw [cj, yw_nar (by omega)]) ⟨vi, nm_r (e' := upd b_value j v3) (by rw [cj]) hp⟩⟩)))
end
theorem so_m1 : vp_nar .byte (-1 : Int32).toInt8.toInt32 = -1 := by rw [vp_nar_byte]; decide
theorem i_vc_open {k : Nat} {u : SX} {v : SY} (I : i_Rel k u v) (hk : k + 4 ≤ 2048) (v1 : Int32) (v2 : Int32) : wpX_open (fun r u' => wpY_open (fun r' v' => r' = r ∧ i_Rel (k + 4) u' v') v v1 v2) u v1 v2 := by
  refine i_elim (Q := fun u v => wpX_open (fun r u' => wpY_open (fun r' v' => r' = r ∧ i_Rel (k + 4) u' v') v v1 v2) u v1 v2) I ?_
  intro n K len g f_innermost f_wrongToken f_wantedCount f_inCondition f_depth f_cursor f_outcome f_outputCount f_stepsTaken a_names a_values a_parents a_kinds a_operands a_priorities a_givenAt a_wanted a_axes a_passing a_ends a_openers a_table a_results a_matched a_listLeft a_listNode a_listPosition a_listSize a_listBody a_listReturn a_outputs g_listed g_depth g_row g_pc g_node g_position g_size g_fault b_kind b_with b_count b_bodyAt b_given b_there b_wanted b_waiting b_within b_list b_left b_reached b_sizes b_each b_backRow b_backPc b_backNode b_backPosition b_backSize R
  have R4 := rl_up (k' := k + 4) (by omega) R
  obtain ⟨h1, h2, h3, h4, h5, h6, h7⟩ := R4
  have hn := h1.1
  by_cases bad : (v1 < 0 ∨ nI 6 ≤ v1) ∨ n = 24 ∨ (0 < n ∧ f_innermost < 0)
  · exact xo_openF hn bad (yo_openF hn bad ⟨rfl, i_mk (K := K) ⟨h1, h2, h3, h4, h5, h6, h7⟩⟩)
  · rcases so_name v1 with q | ⟨t, ht, rfl⟩
    · exact absurd (Or.inl q) bad
    · have n24 : n < 24 := by
        rcases Nat.lt_or_ge n 24 with z | z
        · exact z
        · exact absurd (Or.inr (Or.inl (by omega))) bad
      have hin : n = 0 ∨ ¬ f_innermost < 0 := by
        rcases Nat.eq_zero_or_pos n with z | z
        · exact Or.inl z
        · exact Or.inr (fun y => bad (Or.inr (Or.inr ⟨z, y⟩)))
      have hb : vp_nar .byte f_innermost.toInt8.toInt32 = f_innermost := by
        rcases h3 with rfl | ⟨i, hi, rfl⟩
        · exact so_m1
        · exact yw_nar (by omega)
      refine xo_openT n24 ht hin (yo_openT n24 ht hin hb ⟨rfl, i_mk (K := K) ⟨⟨by omega, fun i hi => ?_⟩, fun i hi => ?_, Or.inr ⟨n, by omega, rfl⟩, h4, h5, h6, h7⟩⟩)
      · rcases Nat.lt_or_ge i n with z | z
        · rw [pk_un (by omega)]; exact h1.2 i z
        · have e : i = n := by omega
          subst e
          rw [pk_us]
          rcases h3 with z | ⟨p, hp, z⟩
          · refine Or.inl ⟨?_, z⟩
            rcases hin with y | y
            · exact y
            · exact absurd (by rw [z]; decide) y
          · exact Or.inr ⟨by omega, p, hp, z⟩
      · rcases Nat.lt_or_ge i n with z | z
        · rw [pk_un (by omega)]; exact h2 i z
        · have e : i = n := by omega
          rw [e, pk_us]; exact ⟨t, ht, rfl⟩
theorem i_vc_relabel {k : Nat} {u : SX} {v : SY} (I : i_Rel k u v) (hk : k + 4 ≤ 2048) (v1 : Int32) (v2 : Int32) (v3 : Int32) : wpX_relabel (fun r u' => wpY_relabel (fun r' v' => r' = r ∧ i_Rel (k + 4) u' v') v v1 v2 v3) u v1 v2 v3 := by
  refine i_elim (Q := fun u v => wpX_relabel (fun r u' => wpY_relabel (fun r' v' => r' = r ∧ i_Rel (k + 4) u' v') v v1 v2 v3) u v1 v2 v3) I ?_
  intro n K len g f_innermost f_wrongToken f_wantedCount f_inCondition f_depth f_cursor f_outcome f_outputCount f_stepsTaken a_names a_values a_parents a_kinds a_operands a_priorities a_givenAt a_wanted a_axes a_passing a_ends a_openers a_table a_results a_matched a_listLeft a_listNode a_listPosition a_listSize a_listBody a_listReturn a_outputs g_listed g_depth g_row g_pc g_node g_position g_size g_fault b_kind b_with b_count b_bodyAt b_given b_there b_wanted b_waiting b_within b_list b_left b_reached b_sizes b_each b_backRow b_backPc b_backNode b_backPosition b_backSize R
  have R4 := rl_up (k' := k + 4) (by omega) R
  obtain ⟨h1, h2, h3, h4, h5, h6, h7⟩ := R4
  have hn := h1.1
  rcases so_ix v1 n (by omega) with q | ⟨j, hj, rfl⟩
  · exact xo_relabelF hn (Or.inl q) (yo_relabelF hn (Or.inl q) ⟨rfl, i_mk (K := K) ⟨h1, h2, h3, h4, h5, h6, h7⟩⟩)
  · rcases so_name v2 with q | ⟨t, ht, rfl⟩
    · exact xo_relabelF hn (Or.inr q) (yo_relabelF hn (Or.inr q) ⟨rfl, i_mk (K := K) ⟨h1, h2, h3, h4, h5, h6, h7⟩⟩)
    · refine xo_relabelT hn hj ht (yo_relabelT hn hj ht ⟨rfl, i_mk (K := K) ⟨h1, fun i hi => ?_, h3, h4, h5, h6, h7⟩⟩)
      by_cases z : i = j
      · rw [z, pk_us]; exact ⟨t, ht, rfl⟩
      · rw [pk_un z]; exact h2 i hi
end
section
/-! slots changed; token, wipe, drop -/
def upS {α : Type} (f : Nat → α) (r : Nat) (x : α) : Nat → α := fun j => if j = r then x else f j
theorem upS_s {α : Type} {f : Nat → α} {r : Nat} {x : α} : upS f r x r = x := if_pos rfl
theorem upS_n {α : Type} {f : Nat → α} {r j : Nat} {x : α} (h : j ≠ r) : upS f r x j = f j := if_neg h
theorem rl_S_keep {A O B C A' O' B' C' : Nat → Int32} {K : Nat → Nat → Nat} {len : Nat → Nat} {r r0 l0 : Nat} {K0 : Nat → Nat} (h : rl_S A O B C K len r) (hne : r ≠ r0) (hA : ∀ y, (y < 32 * r0 ∨ 32 * r0 + 32 ≤ y) → A' y = A y) (hO : ∀ y, (y < 32 * r0 ∨ 32 * r0 + 32 ≤ y) → O' y = O y) (hB : ∀ y, (y < 30 * r0 ∨ 30 * r0 + 30 ≤ y) → B' y = B y) (hC : ∀ y, (y < 30 * r0 ∨ 30 * r0 + 30 ≤ y) → C' y = C y) : rl_S A' O' B' C' (upS K r0 K0) (upS len r0 l0) r := by
  unfold rl_S
  rw [upS_n hne, upS_n hne]
  obtain ⟨h1, h2, h3, h4, h5⟩ := h
  refine ⟨h1, h2, fun x hx => ?_, fun x hx => ?_, fun i hi => ⟨(h5 i hi).1, fun k => ?_⟩⟩
  · rw [hA _ (by omega)]; exact h3 x hx
  · show B' (30 * r + x) = nI (K r x) ∧ C' (30 * r + x) = O' (32 * r + x)
    rw [hB _ (by omega), hC _ (by omega), hO _ (by omega)]; exact h4 x hx
  · rw [hO _ (by omega)]; exact (h5 i hi).2 k
theorem rl_R_keep {k r r0 l0 : Nat} {K : Nat → Nat → Nat} {len : Nat → Nat} {K0 : Nat → Nat} {a_givenAt b_count b_bodyAt b_given b_there : Nat → Int32} (h : rl_R k K len a_givenAt b_count b_bodyAt b_given b_there r) (hne : r ≠ r0) : rl_R k (upS K r0 K0) (upS len r0 l0) a_givenAt b_count b_bodyAt b_given b_there r := by
  unfold rl_R
  rw [upS_n hne, upS_n hne]
  exact h
section
variable {f_nodeCount f_innermost f_draftLength f_rulesGiven f_wrongToken f_wantedCount f_inCondition f_depth f_cursor f_outcome f_outputCount f_stepsTaken : Int32} {a_names a_values a_parents a_kinds a_operands a_priorities a_givenAt a_wanted a_axes a_passing a_ends a_openers a_table a_results a_matched a_listLeft a_listNode a_listPosition a_listSize a_listBody a_listReturn a_outputs : Nat → Int32}
theorem xo_empty_l {post : SX → Prop} {s0 : Nat} (hs : s0 + 32 ≤ 224) (hp : ∀ A : Nat → Int32, (∀ c, c < 32 → A (s0 + c) = 27) → (∀ y, (y < s0 ∨ s0 + 32 ≤ y) → A y = a_kinds y) → post (f_nodeCount, f_innermost, f_draftLength, f_rulesGiven, f_wrongToken, f_wantedCount, f_inCondition, f_depth, f_cursor, f_outcome, f_outputCount, f_stepsTaken, a_names, a_values, a_parents, A, a_operands, a_priorities, a_givenAt, a_wanted, a_axes, a_passing, a_ends, a_openers, a_table, a_results, a_matched, a_listLeft, a_listNode, a_listPosition, a_listSize, a_listBody, a_listReturn, a_outputs)) :
    ∀ d i f A, i + d = 32 → d < f → (∀ c, c < i → A (s0 + c) = 27) → (∀ y, (y < s0 ∨ s0 + 32 ≤ y) → A y = a_kinds y) → wX_emptySlot_2 post (nI s0) f_nodeCount f_innermost f_draftLength f_rulesGiven f_wrongToken f_wantedCount f_inCondition f_depth f_cursor f_outcome f_outputCount f_stepsTaken f (nI i) a_names a_values a_parents A a_operands a_priorities a_givenAt a_wanted a_axes a_passing a_ends a_openers a_table a_results a_matched a_listLeft a_listNode a_listPosition a_listSize a_listBody a_listReturn a_outputs := by
  intro d
  induction d with
  | zero =>
    intro i f A hi hf h1 h2
    obtain ⟨f, rfl⟩ : ∃ x, f = x + 1 := ⟨f - 1, by omega⟩
    have e : i = 32 := by omega
    subst e
    exact br_t (by decide) (hp A h1 h2)
  | succ d ih =>
    intro i f A hi hf h1 h2
    obtain ⟨f, rfl⟩ : ∃ x, f = x + 1 := ⟨f - 1, by omega⟩
    have e : nI s0 + nI i = nI (s0 + i) := nI_add s0 i
    refine br_f (nI_ge (b := 32) (by omega) (by decide)) ⟨by rw [e]; exact vp_in_nI (by omega) (by omega), nm_r (e' := upd A (s0 + i) 27) (by rw [e, nI_clamp (by omega)]) (nm_r (nI_1 i) (ih (i + 1) f _ (by omega) (by omega) (fun c hc => ?_) (fun y hy => ?_)))⟩
    · rcases Nat.lt_or_ge c i with z | z
      · rw [pk_un (by omega)]; exact h1 c z
      · have : c = i := by omega
        rw [this, pk_us]
    · rw [pk_un (by omega)]; exact h2 y hy
theorem xo_empty {post : SX → Prop} {s0 : Nat} (hs : s0 + 32 ≤ 224) (hp : ∀ A : Nat → Int32, (∀ c, c < 32 → A (s0 + c) = 27) → (∀ y, (y < s0 ∨ s0 + 32 ≤ y) → A y = a_kinds y) → post (f_nodeCount, f_innermost, f_draftLength, f_rulesGiven, f_wrongToken, f_wantedCount, f_inCondition, f_depth, f_cursor, f_outcome, f_outputCount, f_stepsTaken, a_names, a_values, a_parents, A, a_operands, a_priorities, a_givenAt, a_wanted, a_axes, a_passing, a_ends, a_openers, a_table, a_results, a_matched, a_listLeft, a_listNode, a_listPosition, a_listSize, a_listBody, a_listReturn, a_outputs)) : wpX_emptySlot post (f_nodeCount, f_innermost, f_draftLength, f_rulesGiven, f_wrongToken, f_wantedCount, f_inCondition, f_depth, f_cursor, f_outcome, f_outputCount, f_stepsTaken, a_names, a_values, a_parents, a_kinds, a_operands, a_priorities, a_givenAt, a_wanted, a_axes, a_passing, a_ends, a_openers, a_table, a_results, a_matched, a_listLeft, a_listNode, a_listPosition, a_listSize, a_listBody, a_listReturn, a_outputs) (nI s0) :=
  ⟨33, xo_empty_l hs hp 32 0 33 a_kinds rfl (by omega) (fun c hc => absurd hc (by omega)) (fun _ _ => rfl)⟩
def tk (t : Nat) (v2 : Int32) : Prop := (t ≤ 17 ∨ (20 ≤ t ∧ t ≤ 26)) ∧ (t = 15 → ∃ v, v < 72 ∧ v % 8 < 7 ∧ v2 = nI v) ∧ (t = 21 → ∃ m, m < 6 ∧ v2 = nI m)
theorem xo_tokT {post : Int32 → Prop} {t : Nat} {v2 : Int32} (h : tk t v2) (hp : post 1) : wpX_isToken post (f_nodeCount, f_innermost, f_draftLength, f_rulesGiven, f_wrongToken, f_wantedCount, f_inCondition, f_depth, f_cursor, f_outcome, f_outputCount, f_stepsTaken, a_names, a_values, a_parents, a_kinds, a_operands, a_priorities, a_givenAt, a_wanted, a_axes, a_passing, a_ends, a_openers, a_table, a_results, a_matched, a_listLeft, a_listNode, a_listPosition, a_listSize, a_listBody, a_listReturn, a_outputs) (nI t) v2 := by
  have h1 := h.1
  by_cases t15 : t = 15
  · obtain ⟨v, hv, hv7, rfl⟩ := h.2.1 t15
    have e1 : nI v / 8 = nI (v / 8) := pk_div (d := 8) (by omega) (by omega) (by omega)
    have e2 : nI v - nI v / 8 * 8 = nI (v % 8) := pk_rem (d := 8) (by omega) (by omega) (by omega)
    refine br_t (by rw [t15]; rfl) (br_f (nI_pos (by omega)) ?_)
    rw [e2, e1]
    exact ⟨by decide, br_f (nI_ge (b := 9) (by omega) (by omega)) ⟨by decide, br_f (nI_ge (b := 7) hv7 (by omega)) hp⟩⟩
  refine br_f (fun z => t15 ((nI_eq (b := 15) (by omega) (by omega)).mp z)) ?_
  by_cases t21 : t = 21
  · obtain ⟨m, hm, rfl⟩ := h.2.2 t21
    exact br_t (by rw [t21]; rfl) (xo_nameT hm ⟨rfl, hp⟩)
  refine br_f (fun z => t21 ((nI_eq (b := 21) (by omega) (by omega)).mp z)) (br_f (nI_pos (by omega)) (pk_le t 17 (fun _ => hp) (fun q => ?_)))
  exact br_f (nI_nlt (b := 20) (by omega) (by omega)) (br_f (nI_nlt (a := 26) (by omega) (by omega)) hp)
theorem xo_tokN {post : Int32 → Prop} {v1 v2 : Int32} (h : v1 < 0) (hp : post 0) : wpX_isToken post (f_nodeCount, f_innermost, f_draftLength, f_rulesGiven, f_wrongToken, f_wantedCount, f_inCondition, f_depth, f_cursor, f_outcome, f_outputCount, f_stepsTaken, a_names, a_values, a_parents, a_kinds, a_operands, a_priorities, a_givenAt, a_wanted, a_axes, a_passing, a_ends, a_openers, a_table, a_results, a_matched, a_listLeft, a_listNode, a_listPosition, a_listSize, a_listBody, a_listReturn, a_outputs) v1 v2 := by
  have lt : ∀ {c : Int32}, 0 ≤ c → ¬ v1 = c := fun hc z => Int32.not_lt.mpr hc (z ▸ h)
  refine br_f (lt (by decide)) (br_f (lt (by decide)) (br_t h (br_t ?_ hp)))
  exact Int32.lt_trans h (by decide)
theorem xo_tokF {post : Int32 → Prop} {t : Nat} {v2 : Int32} (ht : t < 2 ^ 31) (h : ¬ tk t v2) (hp : post 0) : wpX_isToken post (f_nodeCount, f_innermost, f_draftLength, f_rulesGiven, f_wrongToken, f_wantedCount, f_inCondition, f_depth, f_cursor, f_outcome, f_outputCount, f_stepsTaken, a_names, a_values, a_parents, a_kinds, a_operands, a_priorities, a_givenAt, a_wanted, a_axes, a_passing, a_ends, a_openers, a_table, a_results, a_matched, a_listLeft, a_listNode, a_listPosition, a_listSize, a_listBody, a_listReturn, a_outputs) (nI t) v2 := by
  by_cases t15 : t = 15
  · refine br_t (by rw [t15]; rfl) (br_c (fun _ => hp) (fun z => ?_))
    obtain ⟨w, hw, rfl⟩ := nI_of z
    have e1 : nI w / 8 = nI (w / 8) := pk_div (d := 8) (by omega) (by omega) (by omega)
    have e2 : nI w - nI w / 8 * 8 = nI (w % 8) := pk_rem (d := 8) (by omega) (by omega) (by omega)
    rw [e2, e1]
    refine ⟨by decide, pk_le 9 (w / 8) (fun _ => hp) (fun q => ⟨by decide, pk_le 7 (w % 8) (fun _ => hp) (fun q2 => ?_)⟩)⟩
    exact absurd ⟨by omega, fun _ => ⟨w, by omega, q2, rfl⟩, fun y => by omega⟩ h
  refine br_f (fun z => t15 ((nI_eq (b := 15) ht (by omega)).mp z)) ?_
  by_cases t21 : t = 21
  · refine br_t (by rw [t21]; rfl) ?_
    rcases so_name v2 with q | ⟨m, hm, rfl⟩
    · exact xo_nameF q ⟨rfl, hp⟩
    · exact absurd ⟨by omega, fun y => absurd y t15, fun _ => ⟨m, hm, rfl⟩⟩ h
  refine br_f (fun z => t21 ((nI_eq (b := 21) ht (by omega)).mp z)) (br_f (nI_pos ht) (pk_le t 17 (fun q => ?_) (fun q => ?_)))
  · exact absurd ⟨Or.inl q, fun y => absurd y t15, fun y => absurd y t21⟩ h
  · by_cases q20 : t < 20
    · exact br_t (nI_lt (b := 20) q20 (by omega)) hp
    · refine br_f (nI_nlt (b := 20) (by omega) ht) ?_
      by_cases q26 : 26 < t
      · exact br_t (nI_lt (a := 26) q26 ht) hp
      · exact absurd ⟨Or.inr ⟨by omega, by omega⟩, fun y => absurd y t15, fun y => absurd y t21⟩ h
end
section
variable {g_nodes g_inner g_rules g_place g_listed g_depth g_row g_pc g_node g_position g_size g_fault g_put g_steps : Int32} {b_name b_parent b_value b_kind b_with b_count b_bodyAt b_priority b_given b_there b_wanted b_waiting b_within b_list b_left b_reached b_sizes b_each b_backRow b_backPc b_backNode b_backPosition b_backSize b_output : Nat → Int32}
theorem yo_27 {post : Int32 → SY → Prop} {v1 v2 : Int32} {A : Prop} (h1 : wY_token_27 post v1 v2 1 g_nodes g_inner g_rules g_place g_listed g_depth g_row g_pc g_node g_position g_size g_fault g_put g_steps b_name b_parent b_value b_kind b_with b_count b_bodyAt b_priority b_given b_there b_wanted b_waiting b_within b_list b_left b_reached b_sizes b_each b_backRow b_backPc b_backNode b_backPosition b_backSize b_output) (h0 : wY_token_27 post v1 v2 0 g_nodes g_inner g_rules g_place g_listed g_depth g_row g_pc g_node g_position g_size g_fault g_put g_steps b_name b_parent b_value b_kind b_with b_count b_bodyAt b_priority b_given b_there b_wanted b_waiting b_within b_list b_left b_reached b_sizes b_each b_backRow b_backPc b_backNode b_backPosition b_backSize b_output) : wpY_token post (g_nodes, g_inner, g_rules, g_place, g_listed, g_depth, g_row, g_pc, g_node, g_position, g_size, g_fault, g_put, g_steps, b_name, b_parent, b_value, b_kind, b_with, b_count, b_bodyAt, b_priority, b_given, b_there, b_wanted, b_waiting, b_within, b_list, b_left, b_reached, b_sizes, b_each, b_backRow, b_backPc, b_backNode, b_backPosition, b_backSize, b_output) v1 v2 :=
  br_c (fun _ => br_c (fun _ => h0) (fun _ => br_c (fun _ => h0) (fun _ => h1))) (fun _ => br_c (fun _ => h1) (fun _ => br_c (fun _ => h0) (fun _ => br_c (fun _ => h0) (fun _ => h1))))
theorem yo_tokF {post : Int32 → SY → Prop} {d : Nat} {v1 v2 : Int32} (hd : d ≤ 30) (hc : b_count 6 = nI d) (h : d = 30 ∨ v1 < 0 ∨ ∃ t, t < 2 ^ 31 ∧ v1 = nI t ∧ ¬ tk t v2) (hp : post 0 (g_nodes, g_inner, g_rules, g_place, g_listed, g_depth, g_row, g_pc, g_node, g_position, g_size, g_fault, g_put, g_steps, b_name, b_parent, b_value, b_kind, b_with, b_count, b_bodyAt, b_priority, b_given, b_there, b_wanted, b_waiting, b_within, b_list, b_left, b_reached, b_sizes, b_each, b_backRow, b_backPc, b_backNode, b_backPosition, b_backSize, b_output)) : wpY_token post (g_nodes, g_inner, g_rules, g_place, g_listed, g_depth, g_row, g_pc, g_node, g_position, g_size, g_fault, g_put, g_steps, b_name, b_parent, b_value, b_kind, b_with, b_count, b_bodyAt, b_priority, b_given, b_there, b_wanted, b_waiting, b_within, b_list, b_left, b_reached, b_sizes, b_each, b_backRow, b_backPc, b_backNode, b_backPosition, b_backSize, b_output) v1 v2 := by
  have z0 : wY_token_27 post v1 v2 0 g_nodes g_inner g_rules g_place g_listed g_depth g_row g_pc g_node g_position g_size g_fault g_put g_steps b_name b_parent b_value b_kind b_with b_count b_bodyAt b_priority b_given b_there b_wanted b_waiting b_within b_list b_left b_reached b_sizes b_each b_backRow b_backPc b_backNode b_backPosition b_backSize b_output := br_t rfl hp
  rcases h with rfl | h | ⟨t, ht, rfl, h⟩
  · exact yo_27 (A := True) (br_f (by decide) (br_t hc hp)) z0
  · exact br_t h (br_t (Int32.lt_trans h (by decide)) z0)
  · by_cases d30 : d = 30
    · subst d30
      exact yo_27 (A := True) (br_f (by decide) (br_t hc hp)) z0
    · have nc : ¬ b_count 6 = 30 := fun z => d30 (by rw [hc] at z; exact (nI_eq (b := 30) (by omega) (by omega)).mp z)
      by_cases rg : t ≤ 17 ∨ (20 ≤ t ∧ t ≤ 26)
      · refine yo_27 (A := True) (br_f (by decide) (br_f nc ?_)) z0
        by_cases t21 : t = 21
        · refine br_t (by rw [t21]; rfl) ?_
          rcases so_name v2 with q | ⟨m, hm, rfl⟩
          · exact yo_outF (n := 6) q (br_f (by decide) hp)
          · exact absurd ⟨rg, fun y => by omega, fun _ => ⟨m, hm, rfl⟩⟩ h
        · refine br_f (fun z => t21 ((nI_eq (b := 21) ht (by omega)).mp z)) ?_
          by_cases t15 : t = 15
          · refine br_t (by rw [t15]; rfl) ?_
            rcases so_ix v2 72 (by omega) with q | ⟨w, hw, rfl⟩
            · exact yo_outF (n := 72) q (br_f (by decide) hp)
            · have e7 : nI w &&& 7 = nI (w % 8) := pk_andN (by omega) 3 (by decide)
              refine yo_outT (n := 72) hw (by omega) (br_t rfl ?_)
              rw [e7]
              refine pk_eq (w % 8) 7 (fun _ => hp) (fun q => ?_)
              exact absurd ⟨rg, fun _ => ⟨w, hw, by omega, rfl⟩, fun y => by omega⟩ h
          · exact absurd ⟨rg, fun y => absurd y t15, fun y => absurd y t21⟩ h
      · refine br_f (nI_pos ht) (br_f (nI_ge (a := 17) (by omega) ht) ?_)
        by_cases q20 : t < 20
        · exact br_t (nI_lt (b := 20) q20 (by omega)) z0
        · exact br_f (nI_nlt (b := 20) (by omega) ht) (br_t (nI_lt (a := 26) (by omega) ht) z0)
theorem yo_tokT {post : Int32 → SY → Prop} {d t : Nat} {v2 : Int32} (hd : d < 30) (hc : b_count 6 = nI d) (h : tk t v2) (hp : post 1 (g_nodes, g_inner, g_rules, g_place, g_listed, g_depth, g_row, g_pc, g_node, g_position, g_size, g_fault, g_put, g_steps, b_name, b_parent, b_value, upd b_kind (180 + d) (nI t), upd b_with (180 + d) v2, upd b_count 6 (nI (d + 1)), b_bodyAt, b_priority, b_given, b_there, b_wanted, b_waiting, b_within, b_list, b_left, b_reached, b_sizes, b_each, b_backRow, b_backPc, b_backNode, b_backPosition, b_backSize, b_output)) : wpY_token post (g_nodes, g_inner, g_rules, g_place, g_listed, g_depth, g_row, g_pc, g_node, g_position, g_size, g_fault, g_put, g_steps, b_name, b_parent, b_value, b_kind, b_with, b_count, b_bodyAt, b_priority, b_given, b_there, b_wanted, b_waiting, b_within, b_list, b_left, b_reached, b_sizes, b_each, b_backRow, b_backPc, b_backNode, b_backPosition, b_backSize, b_output) (nI t) v2 := by
  have h1 := h.1
  have nc : ¬ b_count 6 = 30 := fun z => by
    rw [hc] at z
    have := (nI_eq (b := 30) (by omega) (by omega)).mp z
    omega
  have e180 : (180 : Int32) + nI d = nI (180 + d) := nI_add 180 d
  have c180 : (nI (180 + d)).toNatClampNeg = 180 + d := nI_clamp (by omega)
  have vi : vp_in (nI (180 + d)) 210 := vp_in_nI (by omega) (by omega)
  have w87 : wY_token_87 post (nI t) v2 g_nodes g_inner g_rules g_place g_listed g_depth g_row g_pc g_node g_position g_size g_fault g_put g_steps b_name b_parent b_value b_kind b_with b_count b_bodyAt b_priority b_given b_there b_wanted b_waiting b_within b_list b_left b_reached b_sizes b_each b_backRow b_backPc b_backNode b_backPosition b_backSize b_output := nm_r (e' := upd b_count 6 (nI (d + 1))) (by rw [hc, nI_1, yw_nar (by omega)]) (nm_r (e' := nI (180 + d)) (by rw [hc, e180]) ⟨vi, nm_r (e' := upd b_kind (180 + d) (nI t)) (by rw [c180, yw_nar (by omega)]) ⟨vi, nm_r (e' := upd b_with (180 + d) v2) (by rw [c180]) hp⟩⟩)
  have w61 : wY_token_61 post (nI t) v2 g_nodes g_inner g_rules g_place g_listed g_depth g_row g_pc g_node g_position g_size g_fault g_put g_steps b_name b_parent b_value b_kind b_with b_count b_bodyAt b_priority b_given b_there b_wanted b_waiting b_within b_list b_left b_reached b_sizes b_each b_backRow b_backPc b_backNode b_backPosition b_backSize b_output := by
    by_cases t15 : t = 15
    · obtain ⟨v, hv, hv7, rfl⟩ := h.2.1 t15
      have e7 : nI v &&& 7 = nI (v % 8) := pk_andN (by omega) 3 (by decide)
      refine br_t (by rw [t15]; rfl) (yo_outT (n := 72) hv (by omega) (br_t rfl ?_))
      rw [e7]
      exact pk_eq (v % 8) 7 (fun q => absurd q (by omega)) (fun _ => w87)
    · exact br_f (fun z => t15 ((nI_eq (b := 15) (by omega) (by omega)).mp z)) w87
  have w27 : wY_token_27 post (nI t) v2 1 g_nodes g_inner g_rules g_place g_listed g_depth g_row g_pc g_node g_position g_size g_fault g_put g_steps b_name b_parent b_value b_kind b_with b_count b_bodyAt b_priority b_given b_there b_wanted b_waiting b_within b_list b_left b_reached b_sizes b_each b_backRow b_backPc b_backNode b_backPosition b_backSize b_output := by
    refine br_f (by decide) (br_f nc ?_)
    by_cases t21 : t = 21
    · obtain ⟨m, hm, rfl⟩ := h.2.2 t21
      exact br_t (by rw [t21]; rfl) (yo_outT (n := 6) hm (by omega) (br_t rfl w61))
    · exact br_f (fun z => t21 ((nI_eq (b := 21) (by omega) (by omega)).mp z)) w61
  refine br_f (nI_pos (by omega)) (pk_le t 17 (fun _ => w27) (fun q => br_f (nI_nlt (b := 20) (by omega) (by omega)) (br_f (nI_nlt (a := 26) (by omega) (by omega)) w27)))
end
theorem i_vc_token {k : Nat} {u : SX} {v : SY} (I : i_Rel k u v) (hk : k + 4 ≤ 2048) (v1 : Int32) (v2 : Int32) : wpX_token (fun r u' => wpY_token (fun r' v' => r' = r ∧ i_Rel (k + 4) u' v') v v1 v2) u v1 v2 := by
  refine i_elim (Q := fun u v => wpX_token (fun r u' => wpY_token (fun r' v' => r' = r ∧ i_Rel (k + 4) u' v') v v1 v2) u v1 v2) I ?_
  intro n K len g f_innermost f_wrongToken f_wantedCount f_inCondition f_depth f_cursor f_outcome f_outputCount f_stepsTaken a_names a_values a_parents a_kinds a_operands a_priorities a_givenAt a_wanted a_axes a_passing a_ends a_openers a_table a_results a_matched a_listLeft a_listNode a_listPosition a_listSize a_listBody a_listReturn a_outputs g_listed g_depth g_row g_pc g_node g_position g_size g_fault b_kind b_with b_count b_bodyAt b_given b_there b_wanted b_waiting b_within b_list b_left b_reached b_sizes b_each b_backRow b_backPc b_backNode b_backPosition b_backSize R
  have R4 := rl_up (k' := k + 4) (by omega) R
  obtain ⟨h1, h2, h3, h4, h5, h6, h7⟩ := R4
  obtain ⟨s1, s2, s3, s4, s5⟩ := h6 6 (by omega)
  have fl : ∀ {x : Prop}, (len 6 = 30 ∨ v1 < 0 ∨ ∃ t, t < 2 ^ 31 ∧ v1 = nI t ∧ ¬ tk t v2) → wpY_token (fun r' v' => r' = 0 ∧ i_Rel (k + 4) (nI n, f_innermost, nI (len 6), nI g, f_wrongToken, f_wantedCount, f_inCondition, f_depth, f_cursor, f_outcome, f_outputCount, f_stepsTaken, a_names, a_values, a_parents, a_kinds, a_operands, a_priorities, a_givenAt, a_wanted, a_axes, a_passing, a_ends, a_openers, a_table, a_results, a_matched, a_listLeft, a_listNode, a_listPosition, a_listSize, a_listBody, a_listReturn, a_outputs) v') (nI n, f_innermost, nI g, f_wrongToken, g_listed, g_depth, g_row, g_pc, g_node, g_position, g_size, g_fault, f_outputCount, f_stepsTaken, a_names, a_parents, a_values, b_kind, b_with, b_count, b_bodyAt, a_priorities, b_given, b_there, b_wanted, b_waiting, b_within, b_list, b_left, b_reached, b_sizes, b_each, b_backRow, b_backPc, b_backNode, b_backPosition, b_backSize, a_outputs) v1 v2 := fun h => yo_tokF s1 h5 h ⟨rfl, i_mk (K := K) ⟨h1, h2, h3, h4, h5, h6, h7⟩⟩
  by_cases d30 : len 6 = 30
  · refine br_t (nI_le (a := 30) (by omega) (by omega)) (fl (x := True) (Or.inl d30))
  refine br_f (nI_ge (b := 30) (by omega) (by omega)) ?_
  rcases Classical.em (v1 < 0) with hv | hv
  · exact xo_tokN hv (br_t rfl (fl (x := True) (Or.inr (Or.inl hv))))
  obtain ⟨t, ht, rfl⟩ := nI_of hv
  by_cases htk : tk t v2
  · have e192 : (192 : Int32) + nI (len 6) = nI (192 + len 6) := nI_add 192 _
    have c192 : (nI (192 + len 6)).toNatClampNeg = 192 + len 6 := nI_clamp (by omega)
    have vi : vp_in (192 + nI (len 6)) 224 := by rw [e192]; exact vp_in_nI (by omega) (by omega)
    refine xo_tokT htk (br_f (by decide) ⟨vi, nm_r (e' := upd a_kinds (192 + len 6) (nI t)) (by rw [e192, c192]) ⟨vi, nm_r (e' := upd a_operands (192 + len 6) v2) (by rw [e192, c192]) (nm_r (nI_1 (len 6)) (yo_tokT (by omega) h5 htk ⟨rfl, ?_⟩))⟩⟩)
    have := i_mk (k := k + 4) (n := n) (g := g) (K := upS K 6 (fun i => if i = len 6 then t else K 6 i)) (len := upS len 6 (len 6 + 1)) (f_innermost := f_innermost) (f_wrongToken := f_wrongToken) (f_wantedCount := f_wantedCount) (f_inCondition := f_inCondition) (f_depth := f_depth) (f_cursor := f_cursor) (f_outcome := f_outcome) (f_outputCount := f_outputCount) (f_stepsTaken := f_stepsTaken) (a_names := a_names) (a_values := a_values) (a_parents := a_parents) (a_kinds := upd a_kinds (192 + len 6) (nI t)) (a_operands := upd a_operands (192 + len 6) v2) (a_priorities := a_priorities) (a_givenAt := a_givenAt) (a_wanted := a_wanted) (a_axes := a_axes) (a_passing := a_passing) (a_ends := a_ends) (a_openers := a_openers) (a_table := a_table) (a_results := a_results) (a_matched := a_matched) (a_listLeft := a_listLeft) (a_listNode := a_listNode) (a_listPosition := a_listPosition) (a_listSize := a_listSize) (a_listBody := a_listBody) (a_listReturn := a_listReturn) (a_outputs := a_outputs) (g_listed := g_listed) (g_depth := g_depth) (g_row := g_row) (g_pc := g_pc) (g_node := g_node) (g_position := g_position) (g_size := g_size) (g_fault := g_fault) (b_kind := upd b_kind (180 + len 6) (nI t)) (b_with := upd b_with (180 + len 6) v2) (b_count := upd b_count 6 (nI (len 6 + 1))) (b_bodyAt := b_bodyAt) (b_given := b_given) (b_there := b_there) (b_wanted := b_wanted) (b_waiting := b_waiting) (b_within := b_within) (b_list := b_list) (b_left := b_left) (b_reached := b_reached) (b_sizes := b_sizes) (b_each := b_each) (b_backRow := b_backRow) (b_backPc := b_backPc) (b_backNode := b_backNode) (b_backPosition := b_backPosition) (b_backSize := b_backSize) ?_
    · rw [upS_s] at this; exact this
    · refine ⟨h1, h2, h3, h4, by rw [pk_us, upS_s], fun r hr => ?_, fun r hr => ?_⟩
      · by_cases e : r = 6
        · subst e
          unfold rl_S
          rw [upS_s, upS_s]
          refine ⟨by omega, fun i hi => ?_, fun x hx => ?_, fun x hx => ?_, fun i hi => ?_⟩
          · show (if i = len 6 then t else K 6 i) = 27
            rw [if_neg (by omega)]; exact s2 i (by omega)
          · show _ = nI (if x = len 6 then t else K 6 x)
            by_cases z : x = len 6
            · rw [z, if_pos rfl, show 32 * 6 + len 6 = 192 + len 6 by omega, pk_us]
            · rw [if_neg z, pk_un (by omega)]; exact s3 x hx
          · show _ = nI (if x = len 6 then t else K 6 x) ∧ _
            by_cases z : x = len 6
            · rw [z, if_pos rfl, show 30 * 6 + len 6 = 180 + len 6 by omega, pk_us, pk_us]
              refine ⟨rfl, ?_⟩
              show v2 = upd a_operands (192 + len 6) v2 (32 * 6 + len 6)
              rw [show 32 * 6 + len 6 = 192 + len 6 by omega, pk_us]
            · rw [if_neg z, pk_un (by omega), pk_un (by omega)]
              refine ⟨(s4 x (by omega)).1, ?_⟩
              show b_with (30 * 6 + x) = upd a_operands (192 + len 6) v2 (32 * 6 + x)
              rw [pk_un (by omega)]
              exact (s4 x (by omega)).2
          · show (if i = len 6 then t else K 6 i) ≤ 26 ∧ ((if i = len 6 then t else K 6 i) = 15 → _)
            by_cases z : i = len 6
            · rw [z, if_pos rfl, show 32 * 6 + len 6 = 192 + len 6 by omega, pk_us]
              exact ⟨by have := htk.1; omega, htk.2.1⟩
            · rw [if_neg z, pk_un (by omega)]; exact s5 i (by omega)
        · exact rl_S_keep (h6 r hr) e (fun y hy => pk_un (by omega)) (fun y hy => pk_un (by omega)) (fun y hy => pk_un (by omega)) (fun y hy => pk_un (by omega))
      · have e : r ≠ 6 := by omega
        refine rl_R_keep ?_ e
        unfold rl_R
        rw [pk_un e]
        exact h7 r hr
  · exact xo_tokF ht htk (br_t rfl (fl (x := True) (Or.inr (Or.inr ⟨t, ht, rfl, htk⟩))))
end
section
/-! wipe, drop, rule -/
theorem so_b0 : vp_nar .boolean 0 = 0 := rfl
theorem so_b1 : vp_nar .boolean 1 = 1 := rfl
theorem so_n0 : vp_nar .byte 0 = nI 0 := yg_nar (m := 0) (by omega)
theorem rl_S_empty {A O B C : Nat → Int32} {K : Nat → Nat → Nat} {len : Nat → Nat} {r : Nat} (hA : ∀ c, c < 32 → A (32 * r + c) = 27) : rl_S A O B C (upS K r (fun _ => 27)) (upS len r 0) r := by
  unfold rl_S
  rw [upS_s, upS_s]
  exact ⟨by omega, fun _ _ => rfl, fun x hx => hA x hx, fun x hx => absurd hx (by omega), fun i hi => absurd hi (by omega)⟩
theorem i_vc_wipe {k : Nat} {u : SX} {v : SY} (I : i_Rel k u v) (hk : k + 4 ≤ 2048) : wpX_wipe (fun r u' => wpY_wipe (fun r' v' => r' = r ∧ i_Rel (k + 4) u' v') v) u := by
  refine i_elim (Q := fun u v => wpX_wipe (fun r u' => wpY_wipe (fun r' v' => r' = r ∧ i_Rel (k + 4) u' v') v) u) I ?_
  intro n K len g f_innermost f_wrongToken f_wantedCount f_inCondition f_depth f_cursor f_outcome f_outputCount f_stepsTaken a_names a_values a_parents a_kinds a_operands a_priorities a_givenAt a_wanted a_axes a_passing a_ends a_openers a_table a_results a_matched a_listLeft a_listNode a_listPosition a_listSize a_listBody a_listReturn a_outputs g_listed g_depth g_row g_pc g_node g_position g_size g_fault b_kind b_with b_count b_bodyAt b_given b_there b_wanted b_waiting b_within b_list b_left b_reached b_sizes b_each b_backRow b_backPc b_backNode b_backPosition b_backSize R
  obtain ⟨h1, h2, h3, h4, h5, h6, h7⟩ := rl_up (k' := k + 4) (by omega) R
  unfold wpX_wipe
  refine xo_empty (s0 := 192) (by omega) fun A hA fr => ?_
  refine nm_r (e' := nI (len 6)) h5 (nm_r (e' := upd b_count 6 (nI 0)) (by rw [so_n0]) ⟨rfl, ?_⟩)
  have e : upS len 6 0 6 = 0 := upS_s
  have := fun h => i_mk (k := k + 4) (n := n) (g := g) (K := upS K 6 (fun _ => 27)) (len := upS len 6 0) (f_innermost := f_innermost) (f_wrongToken := f_wrongToken) (f_wantedCount := f_wantedCount) (f_inCondition := f_inCondition) (f_depth := f_depth) (f_cursor := f_cursor) (f_outcome := f_outcome) (f_outputCount := f_outputCount) (f_stepsTaken := f_stepsTaken) (a_names := a_names) (a_values := a_values) (a_parents := a_parents) (a_kinds := A) (a_operands := a_operands) (a_priorities := a_priorities) (a_givenAt := a_givenAt) (a_wanted := a_wanted) (a_axes := a_axes) (a_passing := a_passing) (a_ends := a_ends) (a_openers := a_openers) (a_table := a_table) (a_results := a_results) (a_matched := a_matched) (a_listLeft := a_listLeft) (a_listNode := a_listNode) (a_listPosition := a_listPosition) (a_listSize := a_listSize) (a_listBody := a_listBody) (a_listReturn := a_listReturn) (a_outputs := a_outputs) (g_listed := g_listed) (g_depth := g_depth) (g_row := g_row) (g_pc := g_pc) (g_node := g_node) (g_position := g_position) (g_size := g_size) (g_fault := g_fault) (b_kind := b_kind) (b_with := b_with) (b_count := upd b_count 6 (nI 0)) (b_bodyAt := b_bodyAt) (b_given := b_given) (b_there := b_there) (b_wanted := b_wanted) (b_waiting := b_waiting) (b_within := b_within) (b_list := b_list) (b_left := b_left) (b_reached := b_reached) (b_sizes := b_sizes) (b_each := b_each) (b_backRow := b_backRow) (b_backPc := b_backPc) (b_backNode := b_backNode) (b_backPosition := b_backPosition) (b_backSize := b_backSize) h
  rw [e] at this
  refine this ⟨h1, h2, h3, h4, by rw [pk_us, e], fun r hr => ?_, fun r hr => ?_⟩
  · by_cases z : r = 6
    · subst z
      exact rl_S_empty hA
    · exact rl_S_keep (h6 r hr) z fr (fun _ _ => rfl) (fun _ _ => rfl) (fun _ _ => rfl)
  · have z : r ≠ 6 := by omega
    refine rl_R_keep ?_ z
    unfold rl_R
    rw [pk_un z]
    exact h7 r hr
section
variable {f_nodeCount f_innermost f_draftLength f_rulesGiven f_wrongToken f_wantedCount f_inCondition f_depth f_cursor f_outcome f_outputCount f_stepsTaken : Int32} {a_names a_values a_parents a_kinds a_operands a_priorities a_givenAt a_wanted a_axes a_passing a_ends a_openers a_table a_results a_matched a_listLeft a_listNode a_listPosition a_listSize a_listBody a_listReturn a_outputs : Nat → Int32}
theorem xo_dropT {post : Int32 → SX → Prop} {r : Nat} (hr : r < 6) (h : ∀ (z : Int32) (A : Nat → Int32), (a_kinds (32 * r) = 27 → z = 0) → (¬ a_kinds (32 * r) = 27 → z = 1) → (∀ c, c < 32 → A (32 * r + c) = 27) → (∀ y, (y < 32 * r ∨ 32 * r + 32 ≤ y) → A y = a_kinds y) → post z (f_nodeCount, f_innermost, f_draftLength, f_rulesGiven, f_wrongToken, f_wantedCount, f_inCondition, f_depth, f_cursor, f_outcome, f_outputCount, f_stepsTaken, a_names, a_values, a_parents, A, a_operands, a_priorities, a_givenAt, a_wanted, a_axes, a_passing, a_ends, a_openers, a_table, a_results, a_matched, a_listLeft, a_listNode, a_listPosition, a_listSize, a_listBody, a_listReturn, a_outputs)) : wpX_drop post (f_nodeCount, f_innermost, f_draftLength, f_rulesGiven, f_wrongToken, f_wantedCount, f_inCondition, f_depth, f_cursor, f_outcome, f_outputCount, f_stepsTaken, a_names, a_values, a_parents, a_kinds, a_operands, a_priorities, a_givenAt, a_wanted, a_axes, a_passing, a_ends, a_openers, a_table, a_results, a_matched, a_listLeft, a_listNode, a_listPosition, a_listSize, a_listBody, a_listReturn, a_outputs) (nI r) := by
  have e : nI r * 32 = nI (32 * r) := by rw [show (32 : Int32) = nI 32 from rfl, pk_mul, Nat.mul_comm]
  have c : (nI (32 * r)).toNatClampNeg = 32 * r := nI_clamp (by omega)
  unfold wpX_drop
  refine xo_ruleT hr (br_f (by decide) ?_)
  unfold wX_drop_29
  rw [e, c]
  refine ⟨vp_in_nI (by omega) (by omega), br_c (fun q => ?_) (fun q => ?_)⟩
  · exact xo_empty (by omega) fun A h1 h2 => ⟨rfl, h 0 A (fun _ => rfl) (fun z => absurd q z) h1 h2⟩
  · exact xo_empty (by omega) fun A h1 h2 => ⟨rfl, h 1 A (fun z => absurd z q) (fun _ => rfl) h1 h2⟩
end
section
variable {g_nodes g_inner g_rules g_place g_listed g_depth g_row g_pc g_node g_position g_size g_fault g_put g_steps : Int32} {b_name b_parent b_value b_kind b_with b_count b_bodyAt b_priority b_given b_there b_wanted b_waiting b_within b_list b_left b_reached b_sizes b_each b_backRow b_backPc b_backNode b_backPosition b_backSize b_output : Nat → Int32}
theorem yo_dropT {post : Int32 → SY → Prop} {r : Nat} (hr : r < 6) (h0 : b_there r = 0 → post 0 (g_nodes, g_inner, g_rules, g_place, g_listed, g_depth, g_row, g_pc, g_node, g_position, g_size, g_fault, g_put, g_steps, b_name, b_parent, b_value, b_kind, b_with, b_count, b_bodyAt, b_priority, b_given, b_there, b_wanted, b_waiting, b_within, b_list, b_left, b_reached, b_sizes, b_each, b_backRow, b_backPc, b_backNode, b_backPosition, b_backSize, b_output)) (h1 : ¬ b_there r = 0 → post 1 (g_nodes, g_inner, g_rules, g_place, g_listed, g_depth, g_row, g_pc, g_node, g_position, g_size, g_fault, g_put, g_steps, b_name, b_parent, b_value, b_kind, b_with, b_count, b_bodyAt, b_priority, b_given, upd b_there r 0, b_wanted, b_waiting, b_within, b_list, b_left, b_reached, b_sizes, b_each, b_backRow, b_backPc, b_backNode, b_backPosition, b_backSize, b_output)) : wpY_drop post (g_nodes, g_inner, g_rules, g_place, g_listed, g_depth, g_row, g_pc, g_node, g_position, g_size, g_fault, g_put, g_steps, b_name, b_parent, b_value, b_kind, b_with, b_count, b_bodyAt, b_priority, b_given, b_there, b_wanted, b_waiting, b_within, b_list, b_left, b_reached, b_sizes, b_each, b_backRow, b_backPc, b_backNode, b_backPosition, b_backSize, b_output) (nI r) := by
  have c : (nI r).toNatClampNeg = r := nI_clamp (by omega)
  unfold wpY_drop
  refine yo_outT (n := 6) hr (by omega) (br_t rfl ⟨vp_in_nI hr (by omega), ?_⟩)
  rw [c]
  exact br_c h0 (fun q => ⟨vp_in_nI hr (by omega), nm_r (e' := upd b_there r 0) (by rw [so_b0]) (h1 q)⟩)
end
theorem i_vc_drop {k : Nat} {u : SX} {v : SY} (I : i_Rel k u v) (hk : k + 4 ≤ 2048) (v1 : Int32) : wpX_drop (fun r u' => wpY_drop (fun r' v' => r' = r ∧ i_Rel (k + 4) u' v') v v1) u v1 := by
  refine i_elim (Q := fun u v => wpX_drop (fun r u' => wpY_drop (fun r' v' => r' = r ∧ i_Rel (k + 4) u' v') v v1) u v1) I ?_
  intro n K len g f_innermost f_wrongToken f_wantedCount f_inCondition f_depth f_cursor f_outcome f_outputCount f_stepsTaken a_names a_values a_parents a_kinds a_operands a_priorities a_givenAt a_wanted a_axes a_passing a_ends a_openers a_table a_results a_matched a_listLeft a_listNode a_listPosition a_listSize a_listBody a_listReturn a_outputs g_listed g_depth g_row g_pc g_node g_position g_size g_fault b_kind b_with b_count b_bodyAt b_given b_there b_wanted b_waiting b_within b_list b_left b_reached b_sizes b_each b_backRow b_backPc b_backNode b_backPosition b_backSize R
  obtain ⟨h1, h2, h3, h4, h5, h6, h7⟩ := rl_up (k' := k + 4) (by omega) R
  rcases so_name v1 with q | ⟨r, hr, rfl⟩
  · have Y0 : wpY_drop (fun r' v' => r' = 0 ∧ i_Rel (k + 4) (nI n, f_innermost, nI (len 6), nI g, f_wrongToken, f_wantedCount, f_inCondition, f_depth, f_cursor, f_outcome, f_outputCount, f_stepsTaken, a_names, a_values, a_parents, a_kinds, a_operands, a_priorities, a_givenAt, a_wanted, a_axes, a_passing, a_ends, a_openers, a_table, a_results, a_matched, a_listLeft, a_listNode, a_listPosition, a_listSize, a_listBody, a_listReturn, a_outputs) v') (nI n, f_innermost, nI g, f_wrongToken, g_listed, g_depth, g_row, g_pc, g_node, g_position, g_size, g_fault, f_outputCount, f_stepsTaken, a_names, a_parents, a_values, b_kind, b_with, b_count, b_bodyAt, a_priorities, b_given, b_there, b_wanted, b_waiting, b_within, b_list, b_left, b_reached, b_sizes, b_each, b_backRow, b_backPc, b_backNode, b_backPosition, b_backSize, a_outputs) v1 := by
      unfold wpY_drop
      exact yo_outF (n := 6) q (br_f (by decide) ⟨rfl, i_mk (K := K) ⟨h1, h2, h3, h4, h5, h6, h7⟩⟩)
    unfold wpX_drop
    exact xo_ruleF q (br_t rfl Y0)
  · have r6 : 6 ≠ r := by omega
    have S := h6 r (by omega)
    have k0 : a_kinds (32 * r) = nI (K r 0) := S.2.2.1 0 (by omega)
    have new : ∀ (T : Nat → Int32) (A : Nat → Int32), T r = 0 → (∀ j, j ≠ r → T j = b_there j) → (∀ c, c < 32 → A (32 * r + c) = 27) → (∀ y, (y < 32 * r ∨ 32 * r + 32 ≤ y) → A y = a_kinds y) → rl (k + 4) n (upS K r (fun _ => 27)) (upS len r 0) g f_innermost a_names a_parents A a_operands a_givenAt b_kind b_with b_count b_bodyAt b_given T := by
      intro T A hT hT2 hA fr
      refine ⟨h1, h2, h3, h4, by rw [upS_n r6]; exact h5, fun j hj => ?_, fun j hj => ?_⟩
      · by_cases z : j = r
        · subst z; exact rl_S_empty hA
        · exact rl_S_keep (h6 j hj) z fr (fun _ _ => rfl) (fun _ _ => rfl) (fun _ _ => rfl)
      · by_cases z : j = r
        · subst z
          exact Or.inl ⟨hT, upS_s⟩
        · refine rl_R_keep ?_ z
          unfold rl_R
          rw [hT2 j z]
          exact h7 j hj
    have fin : ∀ (T A : Nat → Int32), rl (k + 4) n (upS K r (fun _ => 27)) (upS len r 0) g f_innermost a_names a_parents A a_operands a_givenAt b_kind b_with b_count b_bodyAt b_given T → i_Rel (k + 4) (nI n, f_innermost, nI (len 6), nI g, f_wrongToken, f_wantedCount, f_inCondition, f_depth, f_cursor, f_outcome, f_outputCount, f_stepsTaken, a_names, a_values, a_parents, A, a_operands, a_priorities, a_givenAt, a_wanted, a_axes, a_passing, a_ends, a_openers, a_table, a_results, a_matched, a_listLeft, a_listNode, a_listPosition, a_listSize, a_listBody, a_listReturn, a_outputs) (nI n, f_innermost, nI g, f_wrongToken, g_listed, g_depth, g_row, g_pc, g_node, g_position, g_size, g_fault, f_outputCount, f_stepsTaken, a_names, a_parents, a_values, b_kind, b_with, b_count, b_bodyAt, a_priorities, b_given, T, b_wanted, b_waiting, b_within, b_list, b_left, b_reached, b_sizes, b_each, b_backRow, b_backPc, b_backNode, b_backPosition, b_backSize, a_outputs) := by
      intro T A h
      have e : upS len r 0 6 = len 6 := upS_n r6
      rw [← e]
      exact i_mk (K := upS K r (fun _ => 27)) h
    rcases h7 r hr with ⟨t0, l0⟩ | ⟨t1, W, w15, wl, _⟩
    · have k27 : a_kinds (32 * r) = 27 := by rw [k0, S.2.1 0 (by omega)]; rfl
      exact xo_dropT hr fun z A z0 z1 hA fr => yo_dropT hr (fun _ => ⟨(z0 k27).symm, fin b_there A (new b_there A t0 (fun _ _ => rfl) hA fr)⟩) (fun q => absurd t0 q)
    · have k27 : ¬ a_kinds (32 * r) = 27 := by rw [k0, w15]; decide
      have t0 : ¬ b_there r = 0 := by rw [t1]; decide
      exact xo_dropT hr fun z A z0 z1 hA fr => yo_dropT hr (fun q => absurd q t0) (fun _ => ⟨(z1 k27).symm, fin _ A (new _ A pk_us (fun j hj => pk_un hj) hA fr)⟩)
end
section
/-! rule -/
section
variable {f_nodeCount f_innermost f_draftLength f_rulesGiven f_wrongToken f_wantedCount f_inCondition f_depth f_cursor f_outcome f_outputCount f_stepsTaken : Int32} {a_names a_values a_parents a_kinds a_operands a_priorities a_givenAt a_wanted a_axes a_passing a_ends a_openers a_table a_results a_matched a_listLeft a_listNode a_listPosition a_listSize a_listBody a_listReturn a_outputs : Nat → Int32}
theorem xo_copy_l {post : SX → Prop} {s0 : Nat} (hs : s0 + 32 ≤ 192) (hp : ∀ A O : Nat → Int32, (∀ c, c < 32 → A (s0 + c) = a_kinds (192 + c) ∧ O (s0 + c) = a_operands (192 + c)) → (∀ y, (y < s0 ∨ s0 + 32 ≤ y) → A y = a_kinds y ∧ O y = a_operands y) → post (f_nodeCount, f_innermost, f_draftLength, f_rulesGiven, f_wrongToken, f_wantedCount, f_inCondition, f_depth, f_cursor, f_outcome, f_outputCount, f_stepsTaken, a_names, a_values, a_parents, A, O, a_priorities, a_givenAt, a_wanted, a_axes, a_passing, a_ends, a_openers, a_table, a_results, a_matched, a_listLeft, a_listNode, a_listPosition, a_listSize, a_listBody, a_listReturn, a_outputs)) :
    ∀ d i f A O, i + d = 32 → d < f → (∀ c, c < i → A (s0 + c) = a_kinds (192 + c) ∧ O (s0 + c) = a_operands (192 + c)) → (∀ y, (y < s0 ∨ s0 + 32 ≤ y) → A y = a_kinds y ∧ O y = a_operands y) → wX_copyDraft_2 post (nI s0) f_nodeCount f_innermost f_draftLength f_rulesGiven f_wrongToken f_wantedCount f_inCondition f_depth f_cursor f_outcome f_outputCount f_stepsTaken f (nI i) a_names a_values a_parents A O a_priorities a_givenAt a_wanted a_axes a_passing a_ends a_openers a_table a_results a_matched a_listLeft a_listNode a_listPosition a_listSize a_listBody a_listReturn a_outputs := by
  intro d
  induction d with
  | zero =>
    intro i f A O hi hf h1 h2
    obtain ⟨f, rfl⟩ : ∃ x, f = x + 1 := ⟨f - 1, by omega⟩
    have e : i = 32 := by omega
    subst e
    exact br_t (by decide) (hp A O h1 h2)
  | succ d ih =>
    intro i f A O hi hf h1 h2
    obtain ⟨f, rfl⟩ : ∃ x, f = x + 1 := ⟨f - 1, by omega⟩
    have e : nI s0 + nI i = nI (s0 + i) := nI_add s0 i
    have e2 : (192 : Int32) + nI i = nI (192 + i) := nI_add 192 i
    have c1 : (nI (s0 + i)).toNatClampNeg = s0 + i := nI_clamp (by omega)
    have c2 : (nI (192 + i)).toNatClampNeg = 192 + i := nI_clamp (by omega)
    have v1 : vp_in (nI s0 + nI i) 224 := by rw [e]; exact vp_in_nI (by omega) (by omega)
    have v2 : vp_in (192 + nI i) 224 := by rw [e2]; exact vp_in_nI (by omega) (by omega)
    have src := h2 (192 + i) (by omega)
    refine br_f (nI_ge (b := 32) (by omega) (by decide)) ⟨v2, v1, nm_r (e' := upd A (s0 + i) (a_kinds (192 + i))) (by rw [e, e2, c1, c2, src.1]) ⟨v2, v1, nm_r (e' := upd O (s0 + i) (a_operands (192 + i))) (by rw [e, e2, c1, c2, src.2]) (nm_r (nI_1 i) (ih (i + 1) f _ _ (by omega) (by omega) (fun c hc => ?_) (fun y hy => ?_)))⟩⟩
    · rcases Nat.lt_or_ge c i with z | z
      · rw [pk_un (by omega), pk_un (by omega)]; exact h1 c z
      · have : c = i := by omega
        rw [this, pk_us, pk_us]; exact ⟨rfl, rfl⟩
    · rw [pk_un (by omega), pk_un (by omega)]; exact h2 y hy
theorem xo_copy {post : SX → Prop} {s0 : Nat} (hs : s0 + 32 ≤ 192) (hp : ∀ A O : Nat → Int32, (∀ c, c < 32 → A (s0 + c) = a_kinds (192 + c) ∧ O (s0 + c) = a_operands (192 + c)) → (∀ y, (y < s0 ∨ s0 + 32 ≤ y) → A y = a_kinds y ∧ O y = a_operands y) → post (f_nodeCount, f_innermost, f_draftLength, f_rulesGiven, f_wrongToken, f_wantedCount, f_inCondition, f_depth, f_cursor, f_outcome, f_outputCount, f_stepsTaken, a_names, a_values, a_parents, A, O, a_priorities, a_givenAt, a_wanted, a_axes, a_passing, a_ends, a_openers, a_table, a_results, a_matched, a_listLeft, a_listNode, a_listPosition, a_listSize, a_listBody, a_listReturn, a_outputs)) : wpX_copyDraft post (f_nodeCount, f_innermost, f_draftLength, f_rulesGiven, f_wrongToken, f_wantedCount, f_inCondition, f_depth, f_cursor, f_outcome, f_outputCount, f_stepsTaken, a_names, a_values, a_parents, a_kinds, a_operands, a_priorities, a_givenAt, a_wanted, a_axes, a_passing, a_ends, a_openers, a_table, a_results, a_matched, a_listLeft, a_listNode, a_listPosition, a_listSize, a_listBody, a_listReturn, a_outputs) (nI s0) :=
  ⟨33, xo_copy_l hs hp 32 0 33 a_kinds a_operands rfl (by omega) (fun c hc => absurd hc (by omega)) (fun _ _ => ⟨rfl, rfl⟩)⟩
/-- the class's rule, its draft wrong at p or allowed -/
theorem xo_rule {post : Int32 → SX → Prop} {K6 : Nat → Nat} {l6 r gg : Nat} {v2 : Int32} (hr : r < 6) (hl : l6 ≤ 30) (hk : xs_k a_kinds 192 K6) (h100 : ∀ i, i < l6 → K6 i < 100)
    (hN : gm_run K6 l6 0 [3, 0] = none → ∀ (wc ic : Int32) (w A O : Nat → Int32), (∀ c, c < 32 → A (32 * r + c) = a_kinds (192 + c) ∧ O (32 * r + c) = a_operands (192 + c)) → (∀ c, c < 32 → A (192 + c) = 27) → (∀ y, y < 192 → (y < 32 * r ∨ 32 * r + 32 ≤ y) → A y = a_kinds y ∧ O y = a_operands y) →
      post 0 (f_nodeCount, f_innermost, 0, nI (gg + 1), f_wrongToken, wc, ic, f_depth, f_cursor, f_outcome, f_outputCount, f_stepsTaken, a_names, a_values, a_parents, A, O, upd a_priorities r v2, upd a_givenAt r (nI gg), w, a_axes, a_passing, a_ends, a_openers, a_table, a_results, a_matched, a_listLeft, a_listNode, a_listPosition, a_listSize, a_listBody, a_listReturn, a_outputs))
    (hS : ∀ p, gm_run K6 l6 0 [3, 0] = some p → ∀ (wc ic : Int32) (w A : Nat → Int32), (∀ c, c < 32 → A (192 + c) = 27) → (∀ y, y < 192 → A y = a_kinds y) → post 3 (f_nodeCount, f_innermost, 0, nI gg, nI p, wc, ic, f_depth, f_cursor, f_outcome, f_outputCount, f_stepsTaken, a_names, a_values, a_parents, A, a_operands, a_priorities, a_givenAt, w, a_axes, a_passing, a_ends, a_openers, a_table, a_results, a_matched, a_listLeft, a_listNode, a_listPosition, a_listSize, a_listBody, a_listReturn, a_outputs)) :
    wpX_rule post (f_nodeCount, f_innermost, nI l6, nI gg, f_wrongToken, f_wantedCount, f_inCondition, f_depth, f_cursor, f_outcome, f_outputCount, f_stepsTaken, a_names, a_values, a_parents, a_kinds, a_operands, a_priorities, a_givenAt, a_wanted, a_axes, a_passing, a_ends, a_openers, a_table, a_results, a_matched, a_listLeft, a_listNode, a_listPosition, a_listSize, a_listBody, a_listReturn, a_outputs) (nI r) v2 := by
  have e : nI r * 32 = nI (32 * r) := by rw [show (32 : Int32) = nI 32 from rfl, pk_mul, Nat.mul_comm]
  have c : (nI r).toNatClampNeg = r := nI_clamp (by omega)
  have vi : vp_in (nI r) 6 := vp_in_nI hr (by omega)
  unfold wpX_rule
  refine xo_ruleT hr (br_f (by decide) ?_)
  refine xg_draftIs (p0 := 1) (p1 := 4) (z := true) (b := []) (s := [3, 0]) (Or.inl ⟨rfl, rfl⟩) hl hk h100 (by simp [sk_ok, sk_out]) (by decide) rfl (fun q wc ic w => br_f (by decide) ?_) (fun p q wc ic w => br_t rfl ?_)
  · rw [e]
    refine xo_copy (by omega) fun A O h1 h2 => ⟨vi, nm_r (e' := upd a_priorities r v2) (by rw [c]) ⟨vi, nm_r (e' := upd a_givenAt r (nI gg)) (by rw [c]) (nm_r (nI_1 gg) ?_)⟩⟩
    unfold wX_rule_56
    refine xo_empty (s0 := 192) (by omega) fun A' g1 g2 => br_f (by decide) (hN q wc ic w A' O (fun x hx => ?_) g1 (fun y y1 y2 => ?_))
    · rw [g2 _ (Or.inl (by omega))]; exact h1 x hx
    · rw [g2 y (Or.inl y1)]; exact h2 y y2
  · unfold wX_rule_56
    exact xo_empty (s0 := 192) (by omega) fun A' g1 g2 => br_t rfl (hS p q wc ic w A' g1 (fun y y1 => g2 y (Or.inl y1)))
end
section
variable {g_nodes g_inner g_rules g_place g_listed g_depth g_row g_pc g_node g_position g_size g_fault g_put g_steps : Int32} {b_name b_parent b_value b_kind b_with b_count b_bodyAt b_priority b_given b_there b_wanted b_waiting b_within b_list b_left b_reached b_sizes b_each b_backRow b_backPc b_backNode b_backPosition b_backSize b_output : Nat → Int32}
theorem yo_copy_l {post : Int32 → SY → Prop} {r l6 e0 : Nat} {K6 : Nat → Nat} {O6 : Nat → Int32} (hr : r < 6) (W : gm_W K6 l6) (k15 : K6 0 = 15) (he : gm_e K6 0 = e0) (hel : e0 ≤ l6) (h6 : ys_k b_kind b_with 180 K6 O6 l6)
    (hp : ∀ B C : Nat → Int32, ys_k B C (30 * r) K6 O6 l6 → (∀ y, (y < 30 * r ∨ 30 * r + 30 ≤ y) → B y = b_kind y ∧ C y = b_with y) → post 0 (g_nodes, g_inner, g_rules, g_place, g_listed, g_depth, g_row, g_pc, g_node, g_position, g_size, g_fault, g_put, g_steps, b_name, b_parent, b_value, B, C, b_count, upd b_bodyAt r (nI e0), b_priority, b_given, b_there, b_wanted, b_waiting, b_within, b_list, b_left, b_reached, b_sizes, b_each, b_backRow, b_backPc, b_backNode, b_backPosition, b_backSize, b_output)) :
    ∀ d i f B C, i + d = l6 → d < f → (∀ c, c < i → B (30 * r + c) = nI (K6 c) ∧ C (30 * r + c) = O6 c) → (∀ y, (y < 30 * r ∨ 30 * r + 30 ≤ y) → B y = b_kind y ∧ C y = b_with y) → wY_rule_77 post (nI r) (nI l6) g_nodes g_inner g_rules g_place g_listed g_depth g_row g_pc g_node g_position g_size g_fault g_put g_steps f (nI i) b_name b_parent b_value B C b_count b_bodyAt b_priority b_given b_there b_wanted b_waiting b_within b_list b_left b_reached b_sizes b_each b_backRow b_backPc b_backNode b_backPosition b_backSize b_output := by
  have hl := W.1
  have e30 : (30 : Int32) * nI r = nI (30 * r) := by rw [show (30 : Int32) = nI 30 from rfl, pk_mul]
  have cr : (nI r).toNatClampNeg = r := nI_clamp (by omega)
  intro d
  induction d with
  | zero =>
    intro i f B C hi hf h1 h2
    obtain ⟨f, rfl⟩ : ∃ x, f = x + 1 := ⟨f - 1, by omega⟩
    have e : i = l6 := by omega
    subst e
    refine br_t (nI_le (Nat.le_refl _) (by omega)) ?_
    rw [e30, nI_add]
    have := yw_pathEnd (b_kind := B) (b_with := C) (y := 30 * r) (i := 0) (en := i) (K := K6) (O := O6) (len := i) (post := fun r_92 => (vp_in (nI r) 6 ∧ ∀ a_bodyAt_132 : Nat → Int32, a_bodyAt_132 = upd b_bodyAt (nI r).toNatClampNeg (vp_nar .byte ((r_92 - nI (30 * r)).toInt8.toInt32)) → post 0 (g_nodes, g_inner, g_rules, g_place, g_listed, g_depth, g_row, g_pc, g_node, g_position, g_size, g_fault, g_put, g_steps, b_name, b_parent, b_value, B, C, b_count, a_bodyAt_132, b_priority, b_given, b_there, b_wanted, b_waiting, b_within, b_list, b_left, b_reached, b_sizes, b_each, b_backRow, b_backPc, b_backNode, b_backPosition, b_backSize, b_output))) (g_nodes := g_nodes) (g_inner := g_inner) (g_rules := g_rules) (g_place := g_place) (g_listed := g_listed) (g_depth := g_depth) (g_row := g_row) (g_pc := g_pc) (g_node := g_node) (g_position := g_position) (g_size := g_size) (g_fault := g_fault) (g_put := g_put) (g_steps := g_steps) (b_name := b_name) (b_parent := b_parent) (b_value := b_value) (b_count := b_count) (b_bodyAt := b_bodyAt) (b_priority := b_priority) (b_given := b_given) (b_there := b_there) (b_wanted := b_wanted) (b_waiting := b_waiting) (b_within := b_within) (b_list := b_list) (b_left := b_left) (b_reached := b_reached) (b_sizes := b_sizes) (b_each := b_each) (b_backRow := b_backRow) (b_backPc := b_backPc) (b_backNode := b_backNode) (b_backPosition := b_backPosition) (b_backSize := b_backSize) (b_output := b_output) W (by omega) h1 (Nat.le_refl _) k15 (by rw [he]; exact hel) ⟨vp_in_nI hr (by omega), nm_r (e' := upd b_bodyAt r (nI e0)) ?_ (hp B C h1 h2)⟩
    · exact this
    · rw [cr, he, pk_sub (by omega), show 30 * r + e0 - 30 * r = e0 by omega, yw_nar (by omega)]
  | succ d ih =>
    intro i f B C hi hf h1 h2
    obtain ⟨f, rfl⟩ : ∃ x, f = x + 1 := ⟨f - 1, by omega⟩
    have e : (30 : Int32) * nI r + nI i = nI (30 * r + i) := by rw [e30, nI_add]
    have e2 : (180 : Int32) + nI i = nI (180 + i) := nI_add 180 i
    have c1 : (nI (30 * r + i)).toNatClampNeg = 30 * r + i := nI_clamp (by omega)
    have c2 : (nI (180 + i)).toNatClampNeg = 180 + i := nI_clamp (by omega)
    have v1 : vp_in ((30 : Int32) * nI r + nI i) 210 := by rw [e]; exact vp_in_nI (by omega) (by omega)
    have v2 : vp_in (180 + nI i) 210 := by rw [e2]; exact vp_in_nI (by omega) (by omega)
    have src := h2 (180 + i) (by omega)
    have k6 := h6 i (by omega)
    have k27 := gm_k26 W i
    refine br_f (nI_ge (by omega) (by omega)) ⟨v2, v1, nm_r (e' := upd B (30 * r + i) (nI (K6 i))) (by rw [e, e2, c1, c2, src.1, k6.1, yg_nar (by omega)]) ⟨v2, v1, nm_r (e' := upd C (30 * r + i) (O6 i)) (by rw [e, e2, c1, c2, src.2, k6.2]) (nm_r (nI_1 i) (ih (i + 1) f _ _ (by omega) (by omega) (fun c hc => ?_) (fun y hy => ?_)))⟩⟩
    · rcases Nat.lt_or_ge c i with z | z
      · rw [pk_un (by omega), pk_un (by omega)]; exact h1 c z
      · have : c = i := by omega
        rw [this, pk_us, pk_us]; exact ⟨rfl, rfl⟩
    · rw [pk_un (by omega), pk_un (by omega)]; exact h2 y hy
theorem yo_rule {post : Int32 → SY → Prop} {K6 : Nat → Nat} {O6 : Nat → Int32} {l6 r gg : Nat} {v2 : Int32} (hr : r < 6) (hl : l6 ≤ 30) (hk : ys_k b_kind b_with 180 K6 O6 l6) (hc : b_count 6 = nI l6) (h27 : ∀ i, l6 ≤ i → K6 i = 27) (h100 : ∀ i, i < l6 → K6 i < 100)
    (hN : gm_run K6 l6 0 [3, 0] = none → ∀ w B C : Nat → Int32, ys_k B C (30 * r) K6 O6 l6 → (∀ y, (y < 30 * r ∨ 30 * r + 30 ≤ y) → B y = b_kind y ∧ C y = b_with y) →
      post 0 (g_nodes, g_inner, nI (gg + 1), g_place, g_listed, g_depth, g_row, g_pc, g_node, g_position, g_size, g_fault, g_put, g_steps, b_name, b_parent, b_value, B, C, upd (upd b_count 6 (nI 0)) r (nI l6), upd b_bodyAt r (nI (gm_e K6 0)), upd b_priority r v2, upd b_given r (nI (gg + 1)), upd b_there r 1, w, b_waiting, b_within, b_list, b_left, b_reached, b_sizes, b_each, b_backRow, b_backPc, b_backNode, b_backPosition, b_backSize, b_output))
    (hS : ∀ p, gm_run K6 l6 0 [3, 0] = some p → ∀ w : Nat → Int32, p < 100 → post 3 (g_nodes, g_inner, nI gg, nI p, g_listed, g_depth, g_row, g_pc, g_node, g_position, g_size, g_fault, g_put, g_steps, b_name, b_parent, b_value, b_kind, b_with, upd b_count 6 (nI 0), b_bodyAt, b_priority, b_given, b_there, w, b_waiting, b_within, b_list, b_left, b_reached, b_sizes, b_each, b_backRow, b_backPc, b_backNode, b_backPosition, b_backSize, b_output)) :
    wpY_rule post (g_nodes, g_inner, nI gg, g_place, g_listed, g_depth, g_row, g_pc, g_node, g_position, g_size, g_fault, g_put, g_steps, b_name, b_parent, b_value, b_kind, b_with, b_count, b_bodyAt, b_priority, b_given, b_there, b_wanted, b_waiting, b_within, b_list, b_left, b_reached, b_sizes, b_each, b_backRow, b_backPc, b_backNode, b_backPosition, b_backSize, b_output) (nI r) v2 := by
  have cr : (nI r).toNatClampNeg = r := nI_clamp (by omega)
  unfold wpY_rule
  refine yo_outT (n := 6) hr (by omega) (br_t rfl ?_)
  refine yg_misfit0 hl hk hc h100 (fun q w => ?_) (fun p q w => ?_)
  · obtain ⟨W, k15, e1, e2, e3⟩ := gm_W_rule hl h27 (gm_run_n _ _ _ q)
    refine nm_r (e' := nI l6) hc (nm_r (e' := upd b_count 6 (nI 0)) (by rw [so_n0]) (br_t (by decide) ⟨vp_in_nI (by omega) (by omega), nm_r (e' := upd (upd b_count 6 (nI 0)) r (nI l6)) (by rw [cr, yw_nar (by omega)]) ⟨vp_in_nI hr (by omega), nm_r (e' := upd b_there r 1) (by rw [cr, so_b1]) ⟨vp_in_nI hr (by omega), nm_r (e' := upd b_priority r v2) (by rw [cr]) (nm_r (nI_1 gg) ⟨vp_in_nI hr (by omega), nm_r (e' := upd b_given r (nI (gg + 1))) (by rw [cr, nI_1]) ⟨l6 + 1, ?_⟩⟩)⟩⟩⟩))
    exact yo_copy_l hr W k15 rfl e2 hk (hN q w) l6 0 (l6 + 1) b_kind b_with (by omega) (by omega) (fun c hc => absurd hc (by omega)) (fun _ _ => ⟨rfl, rfl⟩)
  · have p100 : p < 100 := by
      have : ∀ d i s p, gm_run K6 d i s = some p → p ≤ i + d := by
        intro d
        induction d with
        | zero =>
          intro i s p h
          rw [gm_run] at h
          split at h
          · exact nomatch h
          · cases h; omega
        | succ d ih =>
          intro i s p h
          rw [gm_run] at h
          split at h
          · cases h; omega
          · have := ih _ _ _ h; omega
      have := this l6 0 [3, 0] p q
      omega
    exact nm_e (nm_r (e' := upd b_count 6 (nI 0)) (by rw [so_n0]) (br_f (nI_pos (by omega)) (hS p q w p100)))
end
theorem i_vc_rule {k : Nat} {u : SX} {v : SY} (I : i_Rel k u v) (hk : k + 4 ≤ 2048) (v1 : Int32) (v2 : Int32) : wpX_rule (fun r u' => wpY_rule (fun r' v' => r' = r ∧ i_Rel (k + 4) u' v') v v1 v2) u v1 v2 := by
  refine i_elim (Q := fun u v => wpX_rule (fun r u' => wpY_rule (fun r' v' => r' = r ∧ i_Rel (k + 4) u' v') v v1 v2) u v1 v2) I ?_
  intro n K len g f_innermost f_wrongToken f_wantedCount f_inCondition f_depth f_cursor f_outcome f_outputCount f_stepsTaken a_names a_values a_parents a_kinds a_operands a_priorities a_givenAt a_wanted a_axes a_passing a_ends a_openers a_table a_results a_matched a_listLeft a_listNode a_listPosition a_listSize a_listBody a_listReturn a_outputs g_listed g_depth g_row g_pc g_node g_position g_size g_fault b_kind b_with b_count b_bodyAt b_given b_there b_wanted b_waiting b_within b_list b_left b_reached b_sizes b_each b_backRow b_backPc b_backNode b_backPosition b_backSize R
  have hg := R.2.2.2.1
  obtain ⟨h1, h2, h3, h4, h5, h6, h7⟩ := rl_up (k' := k + 4) (by omega) R
  rcases so_name v1 with q | ⟨r, hr, rfl⟩
  · have Y0 : wpY_rule (fun r' v' => r' = -1 ∧ i_Rel (k + 4) (nI n, f_innermost, nI (len 6), nI g, f_wrongToken, f_wantedCount, f_inCondition, f_depth, f_cursor, f_outcome, f_outputCount, f_stepsTaken, a_names, a_values, a_parents, a_kinds, a_operands, a_priorities, a_givenAt, a_wanted, a_axes, a_passing, a_ends, a_openers, a_table, a_results, a_matched, a_listLeft, a_listNode, a_listPosition, a_listSize, a_listBody, a_listReturn, a_outputs) v') (nI n, f_innermost, nI g, f_wrongToken, g_listed, g_depth, g_row, g_pc, g_node, g_position, g_size, g_fault, f_outputCount, f_stepsTaken, a_names, a_parents, a_values, b_kind, b_with, b_count, b_bodyAt, a_priorities, b_given, b_there, b_wanted, b_waiting, b_within, b_list, b_left, b_reached, b_sizes, b_each, b_backRow, b_backPc, b_backNode, b_backPosition, b_backSize, a_outputs) v1 v2 := by
      unfold wpY_rule
      exact yo_outF (n := 6) q (br_f (by decide) ⟨rfl, i_mk (K := K) ⟨h1, h2, h3, h4, h5, h6, h7⟩⟩)
    unfold wpX_rule
    exact xo_ruleF q (br_t rfl Y0)
  · have r6 : 6 ≠ r := by omega
    obtain ⟨s1, s2, s3, s4, s5⟩ := h6 6 (by omega)
    have h100 : ∀ i, i < len 6 → K 6 i < 100 := fun i hi => by have := (s5 i hi).1; omega
    have e0 : (0 : Int32) = nI 0 := rfl
    refine xo_rule (K6 := K 6) (l6 := len 6) hr s1 s3 h100 (fun q wc ic w A O hA h27 fr => ?_) (fun p q wc ic w A h27 fr => ?_)
    · refine yo_rule (K6 := K 6) (l6 := len 6) hr s1 s4 h5 s2 h100 (fun _ w' B C hB frB => ⟨rfl, ?_⟩) (fun p q' => by rw [q] at q'; exact nomatch q')
      obtain ⟨W, k15, e1, e2, e3⟩ := gm_W_rule s1 s2 (gm_run_n _ _ _ q)
      have l6 : upS (upS len r (len 6)) 6 0 6 = 0 := upS_s
      have := fun h => i_mk (k := k + 4) (n := n) (g := g + 1) (K := upS (upS K r (K 6)) 6 (fun _ => 27)) (len := upS (upS len r (len 6)) 6 0) (f_innermost := f_innermost) (f_wrongToken := f_wrongToken) (f_wantedCount := wc) (f_inCondition := ic) (f_depth := f_depth) (f_cursor := f_cursor) (f_outcome := f_outcome) (f_outputCount := f_outputCount) (f_stepsTaken := f_stepsTaken) (a_names := a_names) (a_values := a_values) (a_parents := a_parents) (a_kinds := A) (a_operands := O) (a_priorities := upd a_priorities r v2) (a_givenAt := upd a_givenAt r (nI g)) (a_wanted := w) (a_axes := a_axes) (a_passing := a_passing) (a_ends := a_ends) (a_openers := a_openers) (a_table := a_table) (a_results := a_results) (a_matched := a_matched) (a_listLeft := a_listLeft) (a_listNode := a_listNode) (a_listPosition := a_listPosition) (a_listSize := a_listSize) (a_listBody := a_listBody) (a_listReturn := a_listReturn) (a_outputs := a_outputs) (g_listed := g_listed) (g_depth := g_depth) (g_row := g_row) (g_pc := g_pc) (g_node := g_node) (g_position := g_position) (g_size := g_size) (g_fault := g_fault) (b_kind := B) (b_with := C) (b_count := upd (upd b_count 6 (nI 0)) r (nI (len 6))) (b_bodyAt := upd b_bodyAt r (nI (gm_e (K 6) 0))) (b_given := upd b_given r (nI (g + 1))) (b_there := upd b_there r 1) (b_wanted := w') (b_waiting := b_waiting) (b_within := b_within) (b_list := b_list) (b_left := b_left) (b_reached := b_reached) (b_sizes := b_sizes) (b_each := b_each) (b_backRow := b_backRow) (b_backPc := b_backPc) (b_backNode := b_backNode) (b_backPosition := b_backPosition) (b_backSize := b_backSize) h
      rw [l6] at this
      refine this ⟨h1, h2, h3, by omega, by rw [l6, pk_un r6, pk_us], fun j hj => ?_, fun j hj => ?_⟩
      · by_cases z6 : j = 6
        · subst z6
          exact rl_S_empty (fun c hc => h27 c hc)
        · by_cases zr : j = r
          · subst zr
            unfold rl_S
            rw [upS_n z6, upS_n z6, upS_s, upS_s]
            refine ⟨s1, s2, fun x hx => ?_, fun x hx => ?_, fun i hi => ?_⟩
            · rw [(hA x hx).1]; exact s3 x hx
            · refine ⟨(hB x hx).1, ?_⟩
              show C (30 * j + x) = O (32 * j + x)
              rw [(hB x hx).2, (hA x (by omega)).2]
            · rw [(hA i (by omega)).2]; exact s5 i hi
          · unfold rl_S
            rw [upS_n z6, upS_n z6, upS_n zr, upS_n zr]
            obtain ⟨g1, g2, g3, g4, g5⟩ := h6 j hj
            refine ⟨g1, g2, fun x hx => ?_, fun x hx => ?_, fun i hi => ?_⟩
            · rw [(fr _ (by omega) (by omega)).1]; exact g3 x hx
            · show B (30 * j + x) = nI (K j x) ∧ C (30 * j + x) = O (32 * j + x)
              rw [(frB _ (by omega)).1, (frB _ (by omega)).2, (fr _ (by omega) (by omega)).2]
              exact g4 x hx
            · rw [(fr _ (by omega) (by omega)).2]; exact g5 i hi
      · have z6 : j ≠ 6 := by omega
        unfold rl_R
        rw [upS_n z6, upS_n z6]
        by_cases zr : j = r
        · subst zr
          rw [upS_s, upS_s, pk_us, pk_us, pk_us, pk_us, pk_us]
          exact Or.inr ⟨rfl, W, k15, by omega, e3, rfl, rfl, g, by omega, rfl, rfl⟩
        · rw [upS_n zr, upS_n zr, pk_un zr, pk_un zr, pk_un zr, pk_un zr, pk_un zr, pk_un z6]
          exact h7 j hj
    · refine yo_rule (K6 := K 6) (l6 := len 6) hr s1 s4 h5 s2 h100 (fun q' => by rw [q] at q'; exact nomatch q') (fun p' q' w' hp' => ⟨rfl, ?_⟩)
      have pp : p' = p := by rw [q] at q'; cases q'; rfl
      subst pp
      have l6 : upS len 6 0 6 = 0 := upS_s
      have := fun h => i_mk (k := k + 4) (n := n) (g := g) (K := upS K 6 (fun _ => 27)) (len := upS len 6 0) (f_innermost := f_innermost) (f_wrongToken := nI p') (f_wantedCount := wc) (f_inCondition := ic) (f_depth := f_depth) (f_cursor := f_cursor) (f_outcome := f_outcome) (f_outputCount := f_outputCount) (f_stepsTaken := f_stepsTaken) (a_names := a_names) (a_values := a_values) (a_parents := a_parents) (a_kinds := A) (a_operands := a_operands) (a_priorities := a_priorities) (a_givenAt := a_givenAt) (a_wanted := w) (a_axes := a_axes) (a_passing := a_passing) (a_ends := a_ends) (a_openers := a_openers) (a_table := a_table) (a_results := a_results) (a_matched := a_matched) (a_listLeft := a_listLeft) (a_listNode := a_listNode) (a_listPosition := a_listPosition) (a_listSize := a_listSize) (a_listBody := a_listBody) (a_listReturn := a_listReturn) (a_outputs := a_outputs) (g_listed := g_listed) (g_depth := g_depth) (g_row := g_row) (g_pc := g_pc) (g_node := g_node) (g_position := g_position) (g_size := g_size) (g_fault := g_fault) (b_kind := b_kind) (b_with := b_with) (b_count := upd b_count 6 (nI 0)) (b_bodyAt := b_bodyAt) (b_given := b_given) (b_there := b_there) (b_wanted := w') (b_waiting := b_waiting) (b_within := b_within) (b_list := b_list) (b_left := b_left) (b_reached := b_reached) (b_sizes := b_sizes) (b_each := b_each) (b_backRow := b_backRow) (b_backPc := b_backPc) (b_backNode := b_backNode) (b_backPosition := b_backPosition) (b_backSize := b_backSize) h
      rw [l6] at this
      refine this ⟨h1, h2, h3, h4, by rw [pk_us, l6], fun j hj => ?_, fun j hj => ?_⟩
      · by_cases z : j = 6
        · subst z
          exact rl_S_empty h27
        · unfold rl_S
          rw [upS_n z, upS_n z]
          obtain ⟨g1, g2, g3, g4, g5⟩ := h6 j hj
          refine ⟨g1, g2, fun x hx => ?_, g4, g5⟩
          rw [fr _ (by omega)]; exact g3 x hx
      · have z : j ≠ 6 := by omega
        refine rl_R_keep ?_ z
        unfold rl_R
        rw [pk_un z]
        exact h7 j hj
end
section
/-! select and number -/
theorem gm_run_le (K : Nat → Nat) : ∀ d i s p, gm_run K d i s = some p → p ≤ i + d := by
  intro d
  induction d with
  | zero =>
    intro i s p h
    rw [gm_run] at h
    split at h
    · exact nomatch h
    · cases h; omega
  | succ d ih =>
    intro i s p h
    rw [gm_run] at h
    split at h
    · cases h; omega
    · have := ih _ _ _ h; omega
section
variable {g_nodes g_inner g_rules g_place g_listed g_depth g_row g_pc g_node g_position g_size g_fault g_put g_steps : Int32} {b_name b_parent b_value b_kind b_with b_count b_bodyAt b_priority b_given b_there b_wanted b_waiting b_within b_list b_left b_reached b_sizes b_each b_backRow b_backPc b_backNode b_backPosition b_backSize b_output : Nat → Int32}
theorem yo_select {post : Int32 → SY → Prop} {K6 : Nat → Nat} {O6 : Nat → Int32} {l6 n a : Nat} {tb : Nat → Nat → Int32} (T : tr_T b_parent n) (ha : a < n) (hl : l6 ≤ 30) (hk : ys_k b_kind b_with 180 K6 O6 l6) (hc : b_count 6 = nI l6) (h27 : ∀ i, l6 ≤ i → K6 i = 27) (h100 : ∀ i, i < l6 → K6 i < 100) (hov : ∀ x, x < l6 → K6 x = 15 → ∃ v, v < 72 ∧ O6 x = nI v)
    (TE : gm_run K6 l6 0 [3] = none → ∀ c, c < l6 → nu_TE K6 O6 b_value b_parent b_name l6 n tb c)
    (hN : gm_run K6 l6 0 [3] = none → ∀ (gl : Int32) (w bl bw : Nat → Int32), post (tb 0 a) (nI n, g_inner, g_rules, g_place, gl, g_depth, g_row, g_pc, g_node, g_position, g_size, g_fault, g_put, g_steps, b_name, b_parent, b_value, b_kind, b_with, b_count, b_bodyAt, b_priority, b_given, b_there, w, b_waiting, bw, bl, b_left, b_reached, b_sizes, b_each, b_backRow, b_backPc, b_backNode, b_backPosition, b_backSize, b_output))
    (hS : ∀ p, gm_run K6 l6 0 [3] = some p → ∀ w : Nat → Int32, p < 2 ^ 31 → post (-3) (nI n, g_inner, g_rules, nI p, g_listed, g_depth, g_row, g_pc, g_node, g_position, g_size, g_fault, g_put, g_steps, b_name, b_parent, b_value, b_kind, b_with, b_count, b_bodyAt, b_priority, b_given, b_there, w, b_waiting, b_within, b_list, b_left, b_reached, b_sizes, b_each, b_backRow, b_backPc, b_backNode, b_backPosition, b_backSize, b_output)) :
    wpY_select post (nI n, g_inner, g_rules, g_place, g_listed, g_depth, g_row, g_pc, g_node, g_position, g_size, g_fault, g_put, g_steps, b_name, b_parent, b_value, b_kind, b_with, b_count, b_bodyAt, b_priority, b_given, b_there, b_wanted, b_waiting, b_within, b_list, b_left, b_reached, b_sizes, b_each, b_backRow, b_backPc, b_backNode, b_backPosition, b_backSize, b_output) (nI a) := by
  have hn := T.1
  unfold wpY_select
  refine yo_outT ha (by omega) (br_t rfl ?_)
  refine yg_misfit1 (v := 3) (Or.inr rfl) hl hk hc h100 (fun q w => br_t (by decide) ?_) (fun p q w => ?_)
  · obtain ⟨W, k15, e1, e2, e3⟩ := gm_W_sel hl h27 (gm_run_n _ _ _ q)
    rw [hc, show (180 : Int32) + nI l6 = nI (180 + l6) from nI_add 180 l6]
    exact yw_path (y := 180) (i := 0) W (by omega) hk T hov (TE q) (Nat.le_refl _) k15 (by omega) e2 ha fun gl bl bw => hN q gl w bl bw
  · have := gm_run_le K6 l6 0 [3] p q
    exact br_f (nI_pos (by omega)) (hS p q w (by omega))
theorem yo_number {post : Int64 → SY → Prop} {K6 : Nat → Nat} {O6 : Nat → Int32} {l6 n a : Nat} {tb : Nat → Nat → Int32} (T : tr_T b_parent n) (ha : a < n) (hl : l6 ≤ 30) (hk : ys_k b_kind b_with 180 K6 O6 l6) (hc : b_count 6 = nI l6) (h27 : ∀ i, l6 ≤ i → K6 i = 27) (h100 : ∀ i, i < l6 → K6 i < 100) (hov : ∀ x, x < l6 → K6 x = 15 → ∃ v, v < 72 ∧ O6 x = nI v)
    (TE : gm_run K6 l6 0 [2] = none → ∀ c, c < l6 → nu_TE K6 O6 b_value b_parent b_name l6 n tb c)
    (hN : gm_run K6 l6 0 [2] = none → ∀ (gl : Int32) (w wt bl bw : Nat → Int32), post (nu_n K6 O6 b_value tb a 1 1 0).toInt64 (nI n, g_inner, g_rules, g_place, gl, g_depth, g_row, g_pc, g_node, g_position, g_size, g_fault, g_put, g_steps, b_name, b_parent, b_value, b_kind, b_with, b_count, b_bodyAt, b_priority, b_given, b_there, w, wt, bw, bl, b_left, b_reached, b_sizes, b_each, b_backRow, b_backPc, b_backNode, b_backPosition, b_backSize, b_output))
    (hS : ∀ p, gm_run K6 l6 0 [2] = some p → ∀ w : Nat → Int32, p < 2 ^ 31 → post (-9223372036854775807) (nI n, g_inner, g_rules, nI p, g_listed, g_depth, g_row, g_pc, g_node, g_position, g_size, g_fault, g_put, g_steps, b_name, b_parent, b_value, b_kind, b_with, b_count, b_bodyAt, b_priority, b_given, b_there, w, b_waiting, b_within, b_list, b_left, b_reached, b_sizes, b_each, b_backRow, b_backPc, b_backNode, b_backPosition, b_backSize, b_output)) :
    wpY_number post (nI n, g_inner, g_rules, g_place, g_listed, g_depth, g_row, g_pc, g_node, g_position, g_size, g_fault, g_put, g_steps, b_name, b_parent, b_value, b_kind, b_with, b_count, b_bodyAt, b_priority, b_given, b_there, b_wanted, b_waiting, b_within, b_list, b_left, b_reached, b_sizes, b_each, b_backRow, b_backPc, b_backNode, b_backPosition, b_backSize, b_output) (nI a) := by
  have hn := T.1
  unfold wpY_number
  refine yo_outT ha (by omega) (br_t rfl ?_)
  refine yg_misfit1 (v := 2) (Or.inl rfl) hl hk hc h100 (fun q w => br_t (by decide) ?_) (fun p q w => ?_)
  · obtain ⟨W, k14, e1, e2, e3⟩ := gm_W_num hl h27 (gm_run_n _ _ _ q)
    rw [hc, show (180 : Int32) + nI l6 = nI (180 + l6) from nI_add 180 l6, ← e1]
    have k27 := h27 l6 (Nat.le_refl _)
    exact yw_outer (y := 180) (c := 0) W (by omega) hk T hov (TE q) e2 k14 ha (fun x _ x2 => e3 x (by omega)) (by rw [e1, k27]; decide) fun gl wt bl bw => hN q gl w wt bl bw
  · have := gm_run_le K6 l6 0 [2] p q
    exact br_f (nI_pos (by omega)) (hS p q w (by omega))
end
section
variable {f_nodeCount f_innermost f_draftLength f_rulesGiven f_wrongToken f_wantedCount f_inCondition f_depth f_cursor f_outcome f_outputCount f_stepsTaken : Int32} {a_names a_values a_parents a_kinds a_operands a_priorities a_givenAt a_wanted a_axes a_passing a_ends a_openers a_table a_results a_matched a_listLeft a_listNode a_listPosition a_listSize a_listBody a_listReturn a_outputs : Nat → Int32}
theorem xo_select {post : Int32 → SX → Prop} {K : Nat → Nat → Nat} {len : Nat → Nat} {n a : Nat} (T : tr_T a_parents n) (hN0 : ∀ i, i < n → ∃ t, t < 6 ∧ a_names i = nI t) (ha : a < n) (hl : len 6 ≤ 30) (hk : xs_k a_kinds 192 (K 6)) (h27 : ∀ i, len 6 ≤ i → K 6 i = 27) (h100 : ∀ i, i < len 6 → K 6 i < 100) (hov : ∀ x, x < len 6 → K 6 x = 15 → ∃ v, v < 72 ∧ v % 8 < 7 ∧ a_operands (32 * 6 + x) = nI v)
    (hN : gm_run (K 6) (len 6) 0 [3] = none → ∀ (wc ic : Int32) (w A Q E B Tb R : Nat → Int32), (∀ c, c < len 6 → nu_TE (K 6) (fun x => a_operands (32 * 6 + x)) a_values a_parents a_names (len 6) n (fun x a => Tb ((32 * 6 + x) * 24 + a)) c) → post (Tb ((32 * 6 + 0) * 24 + a)) (nI n, f_innermost, nI (len 6), f_rulesGiven, f_wrongToken, wc, ic, f_depth, f_cursor, f_outcome, f_outputCount, f_stepsTaken, a_names, a_values, a_parents, a_kinds, a_operands, a_priorities, a_givenAt, w, A, Q, E, B, Tb, R, a_matched, a_listLeft, a_listNode, a_listPosition, a_listSize, a_listBody, a_listReturn, a_outputs))
    (hS : ∀ p, gm_run (K 6) (len 6) 0 [3] = some p → ∀ (wc ic : Int32) (w : Nat → Int32), post (-3) (nI n, f_innermost, nI (len 6), f_rulesGiven, nI p, wc, ic, f_depth, f_cursor, f_outcome, f_outputCount, f_stepsTaken, a_names, a_values, a_parents, a_kinds, a_operands, a_priorities, a_givenAt, w, a_axes, a_passing, a_ends, a_openers, a_table, a_results, a_matched, a_listLeft, a_listNode, a_listPosition, a_listSize, a_listBody, a_listReturn, a_outputs)) :
    wpX_select post (nI n, f_innermost, nI (len 6), f_rulesGiven, f_wrongToken, f_wantedCount, f_inCondition, f_depth, f_cursor, f_outcome, f_outputCount, f_stepsTaken, a_names, a_values, a_parents, a_kinds, a_operands, a_priorities, a_givenAt, a_wanted, a_axes, a_passing, a_ends, a_openers, a_table, a_results, a_matched, a_listLeft, a_listNode, a_listPosition, a_listSize, a_listBody, a_listReturn, a_outputs) (nI a) := by
  have hn := T.1
  have e4608 : (4608 : Int32) + nI a = nI ((32 * 6 + 0) * 24 + a) := nI_add 4608 a
  unfold wpX_select
  refine xo_nodeT ha hn (br_f (by decide) ?_)
  refine xg_draftIs (p0 := 1) (p1 := 6) (z := false) (b := [6]) (s := [3]) (Or.inr ⟨rfl, rfl⟩) hl hk h100 (by simp [sk_ok, sk_out]) (by decide) rfl (fun q wc ic w => br_f (by decide) ?_) (fun p q wc ic w => br_t rfl (hS p q wc ic w))
  obtain ⟨W, k15, e1, e2, e3⟩ := gm_W_sel hl h27 (gm_run_n _ _ _ q)
  refine xw_tabulate (lo := 192) (hi := 224) (K := K) (len := len) (by omega) (by omega) (by omega) (by omega) T hN0 (fun r r1 r2 => ?_) fun A Q E B Tb R hA hD => ?_
  · have : r = 6 := by omega
    subst this
    exact ⟨W, hk, hov⟩
  · rw [e4608, nI_clamp (by omega)]
    exact ⟨vp_in_nI (by omega) (by omega), hN q wc ic w A Q E B Tb R fun c hc => (hD 6 c (by omega) (by omega) (by omega)).2.1 hc⟩
theorem xo_number {post : Int64 → SX → Prop} {K : Nat → Nat → Nat} {len : Nat → Nat} {n a : Nat} (T : tr_T a_parents n) (hN0 : ∀ i, i < n → ∃ t, t < 6 ∧ a_names i = nI t) (ha : a < n) (hl : len 6 ≤ 30) (hk : xs_k a_kinds 192 (K 6)) (h27 : ∀ i, len 6 ≤ i → K 6 i = 27) (h100 : ∀ i, i < len 6 → K 6 i < 100) (hov : ∀ x, x < len 6 → K 6 x = 15 → ∃ v, v < 72 ∧ v % 8 < 7 ∧ a_operands (32 * 6 + x) = nI v)
    (hN : gm_run (K 6) (len 6) 0 [2] = none → ∀ (wc ic : Int32) (w A Q E B Tb R : Nat → Int32), (∀ c, c < len 6 → nu_TE (K 6) (fun x => a_operands (32 * 6 + x)) a_values a_parents a_names (len 6) n (fun x a => Tb ((32 * 6 + x) * 24 + a)) c) → post (nu_n (K 6) (fun x => a_operands (32 * 6 + x)) a_values (fun x a => Tb ((32 * 6 + x) * 24 + a)) a 1 1 0).toInt64 (nI n, f_innermost, nI (len 6), f_rulesGiven, f_wrongToken, wc, ic, f_depth, f_cursor, f_outcome, f_outputCount, f_stepsTaken, a_names, a_values, a_parents, a_kinds, a_operands, a_priorities, a_givenAt, w, A, Q, E, B, Tb, R, a_matched, a_listLeft, a_listNode, a_listPosition, a_listSize, a_listBody, a_listReturn, a_outputs))
    (hS : ∀ p, gm_run (K 6) (len 6) 0 [2] = some p → ∀ (wc ic : Int32) (w : Nat → Int32), post (-9223372036854775807) (nI n, f_innermost, nI (len 6), f_rulesGiven, nI p, wc, ic, f_depth, f_cursor, f_outcome, f_outputCount, f_stepsTaken, a_names, a_values, a_parents, a_kinds, a_operands, a_priorities, a_givenAt, w, a_axes, a_passing, a_ends, a_openers, a_table, a_results, a_matched, a_listLeft, a_listNode, a_listPosition, a_listSize, a_listBody, a_listReturn, a_outputs)) :
    wpX_number post (nI n, f_innermost, nI (len 6), f_rulesGiven, f_wrongToken, f_wantedCount, f_inCondition, f_depth, f_cursor, f_outcome, f_outputCount, f_stepsTaken, a_names, a_values, a_parents, a_kinds, a_operands, a_priorities, a_givenAt, a_wanted, a_axes, a_passing, a_ends, a_openers, a_table, a_results, a_matched, a_listLeft, a_listNode, a_listPosition, a_listSize, a_listBody, a_listReturn, a_outputs) (nI a) := by
  have hn := T.1
  unfold wpX_number
  refine xo_nodeT ha hn (br_f (by decide) ?_)
  refine xg_draftIs (p0 := 0) (p1 := 6) (z := false) (b := [6]) (s := [2]) (Or.inr ⟨rfl, rfl⟩) hl hk h100 (by simp [sk_ok, sk_out]) (by decide) rfl (fun q wc ic w => br_f (by decide) ?_) (fun p q wc ic w => br_t rfl (hS p q wc ic w))
  obtain ⟨W, k14, e1, e2, e3⟩ := gm_W_num hl h27 (gm_run_n _ _ _ q)
  refine xw_tabulate (lo := 192) (hi := 224) (K := K) (len := len) (by omega) (by omega) (by omega) (by omega) T hN0 (fun r r1 r2 => ?_) fun A Q E B Tb R hA hD => ?_
  · have : r = 6 := by omega
    subst this
    exact ⟨W, hk, hov⟩
  · exact xw_numberAt (b := 32 * 6) (c := 0) (a_table := Tb) W (by omega) hk e2 k14 (fun x _ x2 => (hD 6 x (by omega) (by omega) (by omega)).1) (by omega) fun res => hN q wc ic w A Q E B Tb res fun c hc => (hD 6 c (by omega) (by omega) (by omega)).2.1 hc
end
theorem i_vc_select {k : Nat} {u : SX} {v : SY} (I : i_Rel k u v) (hk : k + 4 ≤ 2048) (v1 : Int32) : wpX_select (fun r u' => wpY_select (fun r' v' => r' = r ∧ i_Rel (k + 4) u' v') v v1) u v1 := by
  refine i_elim (Q := fun u v => wpX_select (fun r u' => wpY_select (fun r' v' => r' = r ∧ i_Rel (k + 4) u' v') v v1) u v1) I ?_
  intro n K len g f_innermost f_wrongToken f_wantedCount f_inCondition f_depth f_cursor f_outcome f_outputCount f_stepsTaken a_names a_values a_parents a_kinds a_operands a_priorities a_givenAt a_wanted a_axes a_passing a_ends a_openers a_table a_results a_matched a_listLeft a_listNode a_listPosition a_listSize a_listBody a_listReturn a_outputs g_listed g_depth g_row g_pc g_node g_position g_size g_fault b_kind b_with b_count b_bodyAt b_given b_there b_wanted b_waiting b_within b_list b_left b_reached b_sizes b_each b_backRow b_backPc b_backNode b_backPosition b_backSize R
  have R4 := rl_up (k' := k + 4) (by omega) R
  obtain ⟨h1, h2, h3, h4, h5, h6, h7⟩ := R4
  have hn := h1.1
  obtain ⟨s1, s2, s3, s4, s5⟩ := h6 6 (by omega)
  have h100 : ∀ i, i < len 6 → K 6 i < 100 := fun i hi => by have := (s5 i hi).1; omega
  have hov : ∀ x, x < len 6 → K 6 x = 15 → ∃ v, v < 72 ∧ a_operands (32 * 6 + x) = nI v := fun x hx k15 => by
    obtain ⟨v, v1, v2, v3⟩ := (s5 x hx).2 k15
    exact ⟨v, v1, v3⟩
  rcases so_ix v1 n (by omega) with q | ⟨a, ha, rfl⟩
  · have Y0 : wpY_select (fun r' v' => r' = -1 ∧ i_Rel (k + 4) (nI n, f_innermost, nI (len 6), nI g, f_wrongToken, f_wantedCount, f_inCondition, f_depth, f_cursor, f_outcome, f_outputCount, f_stepsTaken, a_names, a_values, a_parents, a_kinds, a_operands, a_priorities, a_givenAt, a_wanted, a_axes, a_passing, a_ends, a_openers, a_table, a_results, a_matched, a_listLeft, a_listNode, a_listPosition, a_listSize, a_listBody, a_listReturn, a_outputs) v') (nI n, f_innermost, nI g, f_wrongToken, g_listed, g_depth, g_row, g_pc, g_node, g_position, g_size, g_fault, f_outputCount, f_stepsTaken, a_names, a_parents, a_values, b_kind, b_with, b_count, b_bodyAt, a_priorities, b_given, b_there, b_wanted, b_waiting, b_within, b_list, b_left, b_reached, b_sizes, b_each, b_backRow, b_backPc, b_backNode, b_backPosition, b_backSize, a_outputs) v1 := by
      unfold wpY_select
      exact yo_outF q (br_f (by decide) ⟨rfl, i_mk (K := K) ⟨h1, h2, h3, h4, h5, h6, h7⟩⟩)
    unfold wpX_select
    exact xo_nodeF q (br_t rfl Y0)
  · refine xo_select h1 h2 ha s1 s3 s2 h100 (fun x hx => (s5 x hx).2) (fun q wc ic w A Q E B Tb R TE => ?_) (fun p q wc ic w => ?_)
    · exact yo_select (K6 := K 6) (tb := fun x a => Tb ((32 * 6 + x) * 24 + a)) h1 ha s1 s4 h5 s2 h100 hov (fun _ => TE) (fun _ gl w' bl bw => ⟨rfl, i_mk (K := K) ⟨h1, h2, h3, h4, h5, h6, h7⟩⟩) (fun p q' => by rw [q] at q'; exact nomatch q')
    · refine yo_select (K6 := K 6) (tb := fun _ _ => 0) h1 ha s1 s4 h5 s2 h100 hov (fun q' => by rw [q] at q'; exact nomatch q') (fun q' => by rw [q] at q'; exact nomatch q') (fun p' q' w' hp' => ⟨rfl, ?_⟩)
      have pp : p' = p := by rw [q] at q'; cases q'; rfl
      subst pp
      exact i_mk (K := K) ⟨h1, h2, h3, h4, h5, h6, h7⟩
theorem i_vc_number {k : Nat} {u : SX} {v : SY} (I : i_Rel k u v) (hk : k + 4 ≤ 2048) (v1 : Int32) : wpX_number (fun r u' => wpY_number (fun r' v' => r' = r ∧ i_Rel (k + 4) u' v') v v1) u v1 := by
  refine i_elim (Q := fun u v => wpX_number (fun r u' => wpY_number (fun r' v' => r' = r ∧ i_Rel (k + 4) u' v') v v1) u v1) I ?_
  intro n K len g f_innermost f_wrongToken f_wantedCount f_inCondition f_depth f_cursor f_outcome f_outputCount f_stepsTaken a_names a_values a_parents a_kinds a_operands a_priorities a_givenAt a_wanted a_axes a_passing a_ends a_openers a_table a_results a_matched a_listLeft a_listNode a_listPosition a_listSize a_listBody a_listReturn a_outputs g_listed g_depth g_row g_pc g_node g_position g_size g_fault b_kind b_with b_count b_bodyAt b_given b_there b_wanted b_waiting b_within b_list b_left b_reached b_sizes b_each b_backRow b_backPc b_backNode b_backPosition b_backSize R
  have R4 := rl_up (k' := k + 4) (by omega) R
  obtain ⟨h1, h2, h3, h4, h5, h6, h7⟩ := R4
  have hn := h1.1
  obtain ⟨s1, s2, s3, s4, s5⟩ := h6 6 (by omega)
  have h100 : ∀ i, i < len 6 → K 6 i < 100 := fun i hi => by have := (s5 i hi).1; omega
  have hov : ∀ x, x < len 6 → K 6 x = 15 → ∃ v, v < 72 ∧ a_operands (32 * 6 + x) = nI v := fun x hx k15 => by
    obtain ⟨v, v1, v2, v3⟩ := (s5 x hx).2 k15
    exact ⟨v, v1, v3⟩
  rcases so_ix v1 n (by omega) with q | ⟨a, ha, rfl⟩
  · have Y0 : wpY_number (fun r' v' => r' = -9223372036854775808 ∧ i_Rel (k + 4) (nI n, f_innermost, nI (len 6), nI g, f_wrongToken, f_wantedCount, f_inCondition, f_depth, f_cursor, f_outcome, f_outputCount, f_stepsTaken, a_names, a_values, a_parents, a_kinds, a_operands, a_priorities, a_givenAt, a_wanted, a_axes, a_passing, a_ends, a_openers, a_table, a_results, a_matched, a_listLeft, a_listNode, a_listPosition, a_listSize, a_listBody, a_listReturn, a_outputs) v') (nI n, f_innermost, nI g, f_wrongToken, g_listed, g_depth, g_row, g_pc, g_node, g_position, g_size, g_fault, f_outputCount, f_stepsTaken, a_names, a_parents, a_values, b_kind, b_with, b_count, b_bodyAt, a_priorities, b_given, b_there, b_wanted, b_waiting, b_within, b_list, b_left, b_reached, b_sizes, b_each, b_backRow, b_backPc, b_backNode, b_backPosition, b_backSize, a_outputs) v1 := by
      unfold wpY_number
      exact yo_outF q (br_f (by decide) ⟨rfl, i_mk (K := K) ⟨h1, h2, h3, h4, h5, h6, h7⟩⟩)
    unfold wpX_number
    exact xo_nodeF q (br_t rfl Y0)
  · refine xo_number h1 h2 ha s1 s3 s2 h100 (fun x hx => (s5 x hx).2) (fun q wc ic w A Q E B Tb R TE => ?_) (fun p q wc ic w => ?_)
    · exact yo_number (K6 := K 6) (tb := fun x a => Tb ((32 * 6 + x) * 24 + a)) h1 ha s1 s4 h5 s2 h100 hov (fun _ => TE) (fun _ gl w' wt bl bw => ⟨rfl, i_mk (K := K) ⟨h1, h2, h3, h4, h5, h6, h7⟩⟩) (fun p q' => by rw [q] at q'; exact nomatch q')
    · refine yo_number (K6 := K 6) (tb := fun _ _ => 0) h1 ha s1 s4 h5 s2 h100 hov (fun q' => by rw [q] at q'; exact nomatch q') (fun q' => by rw [q] at q'; exact nomatch q') (fun p' q' w' hp' => ⟨rfl, ?_⟩)
      have pp : p' = p := by rw [q] at q'; cases q'; rfl
      subst pp
      exact i_mk (K := K) ⟨h1, h2, h3, h4, h5, h6, h7⟩
end
section
/-! rules that match; the rule for a node -/
def bs_i (b : Option Nat) : Int32 := match b with
  | none => -1
  | some r => nI r
def bs_f (Pr G : Nat → Int32) (r : Nat) (b : Option Nat) : Bool := match b with
  | none => true
  | some x => decide (Pr x < Pr r ∨ (Pr r = Pr x ∧ ¬ G r ≤ G x))
/-- the best of the rules from r on, b being the best so far -/
def bs (M : Nat → Bool) (Pr G : Nat → Int32) : Nat → Nat → Option Nat → Option Nat
  | 0, _, b => b
  | d + 1, r, b => bs M Pr G d (r + 1) (if M r = true ∧ bs_f Pr G r b = true then some r else b)
theorem bs_m {M : Nat → Bool} {Pr G : Nat → Int32} : ∀ {d r : Nat} {b : Option Nat} {x : Nat}, (∀ y, b = some y → M y = true ∧ y < r + d) → bs M Pr G d r b = some x → M x = true ∧ x < r + d
  | 0, r, b, x, hb, h => hb x h
  | d + 1, r, b, x, hb, h => by
    rw [bs] at h
    have := bs_m (d := d) (r := r + 1) (fun y hy => ?_) h
    · exact ⟨this.1, by omega⟩
    · split at hy
      · rename_i q
        cases hy
        exact ⟨q.1, by omega⟩
      · have := hb y hy
        exact ⟨this.1, by omega⟩
section
variable {f_nodeCount f_innermost f_draftLength f_rulesGiven f_wrongToken f_wantedCount f_inCondition f_depth f_cursor f_outcome f_outputCount f_stepsTaken : Int32} {a_names a_values a_parents a_kinds a_operands a_priorities a_givenAt a_wanted a_axes a_passing a_ends a_openers a_table a_results a_matched a_listLeft a_listNode a_listPosition a_listSize a_listBody a_listReturn a_outputs : Nat → Int32}
theorem xo_m22 {post : SX → Prop} {J : Int32 → (Nat → Int32) → (Nat → Int32) → (Nat → Int32) → (Nat → Int32) → (Nat → Int32) → (Nat → Int32) → (Nat → Int32) → (Nat → Int32) → (Nat → Int32) → (Nat → Int32) → (Nat → Int32) → (Nat → Int32) → (Nat → Int32) → (Nat → Int32) → (Nat → Int32) → (Nat → Int32) → (Nat → Int32) → (Nat → Int32) → (Nat → Int32) → (Nat → Int32) → (Nat → Int32) → (Nat → Int32) → Prop} {n r : Nat} {k0 : Nat} (hn : n ≤ 24) (hr : r < 6) (hA : xs_ax a_axes a_parents n) (hk : a_kinds (32 * r) = nI k0) (hk27 : k0 ≤ 27)
    (hJ : ∀ M : Nat → Int32, (∀ j, j ≠ r → M j = a_matched j) → (∀ i, i < n → (bt (M r) i = true ↔ k0 = 15 ∧ ∃ a, a < n ∧ bt (a_table (32 * r * 24 + a)) i = true ∧ (i = a ∨ tr_a a_parents a i = true))) → J (nI (r + 1)) a_names a_values a_parents a_kinds a_operands a_priorities a_givenAt a_wanted a_axes a_passing a_ends a_openers a_table a_results M a_listLeft a_listNode a_listPosition a_listSize a_listBody a_listReturn a_outputs) :
    ∀ d a f M, a + d = n → d < f → (∀ j, j ≠ r → M j = a_matched j) → (∀ i, i < n → (bt (M r) i = true ↔ k0 = 15 ∧ ∃ b, b < a ∧ bt (a_table (32 * r * 24 + b)) i = true ∧ (i = b ∨ tr_a a_parents b i = true))) → wX_matchRules_22 post J (nI r) (nI (32 * r)) (nI n) f_innermost f_draftLength f_rulesGiven f_wrongToken f_wantedCount f_inCondition f_depth f_cursor f_outcome f_outputCount f_stepsTaken f (nI a) a_names a_values a_parents a_kinds a_operands a_priorities a_givenAt a_wanted a_axes a_passing a_ends a_openers a_table a_results M a_listLeft a_listNode a_listPosition a_listSize a_listBody a_listReturn a_outputs := by
  have cr : (nI r).toNatClampNeg = r := nI_clamp (by omega)
  intro d
  induction d with
  | zero =>
    intro a f M ha hf fr h
    obtain ⟨f, rfl⟩ : ∃ x, f = x + 1 := ⟨f - 1, by omega⟩
    have e : a = n := by omega
    subst e
    exact br_t (nI_le (Nat.le_refl _) (by omega)) (nm_r (nI_1 r) (hJ M fr h))
  | succ d ih =>
    intro a f M ha hf fr h
    obtain ⟨f, rfl⟩ : ∃ x, f = x + 1 := ⟨f - 1, by omega⟩
    have e72 : (72 : Int32) + nI a = nI (72 + a) := nI_add 72 a
    have ix := xw_ix (32 * r) a
    refine br_f (nI_ge (by omega) (by omega)) ⟨vp_in_nI (by omega) (by omega), ?_⟩
    rw [nI_clamp (by omega), hk]
    by_cases k15 : k0 = 15
    · rw [k15]
      refine br_t (by decide) ⟨by rw [e72]; exact vp_in_nI (by omega) (by omega), nm_r (e' := a_axes (72 + a) ||| ((1 : Int32) <<< (nI a &&& 31))) (by rw [e72, nI_clamp (by omega)]) ⟨vp_in_nI hr (by omega), by rw [ix]; exact vp_in_nI (by omega) (by omega), vp_in_nI hr (by omega), nm_r (e' := upd M r (M r ||| (a_table (32 * r * 24 + a) &&& (a_axes (72 + a) ||| ((1 : Int32) <<< (nI a &&& 31)))))) (by rw [cr, ix, nI_clamp (by omega)]) (nm_r (nI_1 a) (ih (a + 1) f _ (by omega) (by omega) (fun j hj => by rw [pk_un hj]; exact fr j hj) fun i hi => ?_))⟩⟩
      have ax := hA 3 a i (by omega) (by omega) (by omega)
      rw [show 3 * 24 + a = 72 + a by omega, tr_on3, decide_eq_true hi, Bool.true_and] at ax
      rw [pk_us, b_or, b_and, b_or, ax, ms_1 a (by omega) i (by omega), Bool.or_eq_true, Bool.and_eq_true, Bool.or_eq_true, decide_eq_true_eq, h i hi]
      constructor
      · rintro (⟨_, b, b1, b2⟩ | ⟨z1, z2⟩)
        · exact ⟨k15, b, by omega, b2⟩
        · exact ⟨k15, a, by omega, z1, z2.symm⟩
      · rintro ⟨_, b, b1, b2, b3⟩
        rcases Nat.lt_or_ge b a with q | q
        · exact Or.inl ⟨k15, b, q, b2, b3⟩
        · have : b = a := by omega
          rw [this] at b2 b3
          exact Or.inr ⟨b2, b3.symm⟩
    · refine br_f (fun z => k15 ((nI_eq (b := 15) (by omega) (by omega)).mp z)) (nm_r (nI_1 r) (hJ M fr fun i hi => (h i hi).trans ⟨fun z => absurd z.1 k15, fun z => absurd z.1 k15⟩))
theorem xo_m2 {post : SX → Prop} {K : Nat → Nat → Nat} {n : Nat} (hn : n ≤ 24) (hA : xs_ax a_axes a_parents n) (hk : ∀ r, r < 6 → a_kinds (32 * r) = nI (K r 0) ∧ K r 0 ≤ 27)
    (hp : ∀ M : Nat → Int32, (∀ r, r < 6 → ∀ i, i < n → (bt (M r) i = true ↔ K r 0 = 15 ∧ ∃ a, a < n ∧ bt (a_table (32 * r * 24 + a)) i = true ∧ (i = a ∨ tr_a a_parents a i = true))) → post (nI n, f_innermost, f_draftLength, f_rulesGiven, f_wrongToken, f_wantedCount, f_inCondition, f_depth, f_cursor, f_outcome, f_outputCount, f_stepsTaken, a_names, a_values, a_parents, a_kinds, a_operands, a_priorities, a_givenAt, a_wanted, a_axes, a_passing, a_ends, a_openers, a_table, a_results, M, a_listLeft, a_listNode, a_listPosition, a_listSize, a_listBody, a_listReturn, a_outputs)) :
    ∀ d r f M, r + d = 6 → d < f → (∀ j, j < r → ∀ i, i < n → (bt (M j) i = true ↔ K j 0 = 15 ∧ ∃ a, a < n ∧ bt (a_table (32 * j * 24 + a)) i = true ∧ (i = a ∨ tr_a a_parents a i = true))) → wX_matchRules_2 post (nI n) f_innermost f_draftLength f_rulesGiven f_wrongToken f_wantedCount f_inCondition f_depth f_cursor f_outcome f_outputCount f_stepsTaken f (nI r) a_names a_values a_parents a_kinds a_operands a_priorities a_givenAt a_wanted a_axes a_passing a_ends a_openers a_table a_results M a_listLeft a_listNode a_listPosition a_listSize a_listBody a_listReturn a_outputs := by
  intro d
  induction d with
  | zero =>
    intro r f M hr hf h
    obtain ⟨f, rfl⟩ : ∃ x, f = x + 1 := ⟨f - 1, by omega⟩
    have e : r = 6 := by omega
    subst e
    exact br_t (by decide) (hp M h)
  | succ d ih =>
    intro r f M hr hf h
    obtain ⟨f, rfl⟩ : ∃ x, f = x + 1 := ⟨f - 1, by omega⟩
    have e : nI r * 32 = nI (32 * r) := by rw [show (32 : Int32) = nI 32 from rfl, pk_mul, Nat.mul_comm]
    refine br_f (nI_ge (b := 6) (by omega) (by decide)) (nm_r e ⟨vp_in_nI (by omega) (by omega), nm_r (e' := upd M r 0) (by rw [nI_clamp (by omega)]) ⟨n + 1, xo_m22 (a_matched := upd M r 0) hn (by omega) hA (hk r (by omega)).1 (hk r (by omega)).2 (fun M' fr h' => ih (r + 1) f M' (by omega) (by omega) fun j hj => ?_) n 0 (n + 1) _ (by omega) (by omega) (fun _ _ => rfl) fun i hi => ?_⟩⟩)
    · rcases Nat.lt_or_ge j r with z | z
      · rw [fr j (by omega), pk_un (by omega)]; exact h j z
      · have : j = r := by omega
        rw [this]; exact h'
    · rw [pk_us, b_0]
      exact ⟨fun z => (nomatch z), fun ⟨_, b, b1, _⟩ => absurd b1 (by omega)⟩
theorem xo_match {post : SX → Prop} {K : Nat → Nat → Nat} {n : Nat} (hn : n ≤ 24) (hA : xs_ax a_axes a_parents n) (hk : ∀ r, r < 6 → a_kinds (32 * r) = nI (K r 0) ∧ K r 0 ≤ 27)
    (hp : ∀ M : Nat → Int32, (∀ r, r < 6 → ∀ i, i < n → (bt (M r) i = true ↔ K r 0 = 15 ∧ ∃ a, a < n ∧ bt (a_table (32 * r * 24 + a)) i = true ∧ (i = a ∨ tr_a a_parents a i = true))) → post (nI n, f_innermost, f_draftLength, f_rulesGiven, f_wrongToken, f_wantedCount, f_inCondition, f_depth, f_cursor, f_outcome, f_outputCount, f_stepsTaken, a_names, a_values, a_parents, a_kinds, a_operands, a_priorities, a_givenAt, a_wanted, a_axes, a_passing, a_ends, a_openers, a_table, a_results, M, a_listLeft, a_listNode, a_listPosition, a_listSize, a_listBody, a_listReturn, a_outputs)) : wpX_matchRules post (nI n, f_innermost, f_draftLength, f_rulesGiven, f_wrongToken, f_wantedCount, f_inCondition, f_depth, f_cursor, f_outcome, f_outputCount, f_stepsTaken, a_names, a_values, a_parents, a_kinds, a_operands, a_priorities, a_givenAt, a_wanted, a_axes, a_passing, a_ends, a_openers, a_table, a_results, a_matched, a_listLeft, a_listNode, a_listPosition, a_listSize, a_listBody, a_listReturn, a_outputs) :=
  ⟨7, xo_m2 hn hA hk hp 6 0 7 a_matched rfl (by omega) (fun j hj => absurd hj (by omega))⟩
theorem xo_best_l {post : Int32 → Prop} {m : Nat} (hm : m < 24) : ∀ d r f b, r + d = 6 → d < f → (∀ y, b = some y → y < 6) → post (bs_i (bs (fun r => bt (a_matched r) m) a_priorities a_givenAt d r b)) → wX_bestRule_4 post (nI m) f_nodeCount f_innermost f_draftLength f_rulesGiven f_wrongToken f_wantedCount f_inCondition f_depth f_cursor f_outcome f_outputCount f_stepsTaken a_names a_values a_parents a_kinds a_operands a_priorities a_givenAt a_wanted a_axes a_passing a_ends a_openers a_table a_results a_matched a_listLeft a_listNode a_listPosition a_listSize a_listBody a_listReturn a_outputs f (bs_i b) (nI r) := by
  intro d
  induction d with
  | zero =>
    intro r f b hr hf hb hp
    obtain ⟨f, rfl⟩ : ∃ x, f = x + 1 := ⟨f - 1, by omega⟩
    have e : r = 6 := by omega
    subst e
    exact br_t (by decide) hp
  | succ d ih =>
    intro r f b hr hf hb hp
    obtain ⟨f, rfl⟩ : ∃ x, f = x + 1 := ⟨f - 1, by omega⟩
    have cr : (nI r).toNatClampNeg = r := nI_clamp (by omega)
    have vr : vp_in (nI r) 6 := vp_in_nI (by omega) (by omega)
    rw [bs] at hp
    refine br_f (nI_ge (b := 6) (by omega) (by decide)) ⟨vr, ?_⟩
    rw [cr]
    cases hbt : bt (a_matched r) m
    · refine br_t (ms_f (by omega) hbt) (nm_r (nI_1 r) (ih (r + 1) f b (by omega) (by omega) hb ?_))
      rw [if_neg (fun z => by rw [hbt] at z; exact nomatch z.1)] at hp
      exact hp
    · refine br_f (ms_t (by omega) hbt) ?_
      cases b with
      | none =>
        refine br_t (by decide) (nm_r (nI_1 r) (ih (r + 1) f (some r) (by omega) (by omega) (fun y hy => by cases hy; omega) ?_))
        rw [if_pos ⟨hbt, rfl⟩] at hp
        exact hp
      | some x =>
        have hx := hb x rfl
        have cx : (bs_i (some x)).toNatClampNeg = x := nI_clamp (n := x) (by omega)
        have vx : vp_in (nI x) 6 := vp_in_nI hx (by omega)
        have yes : (a_priorities x < a_priorities r ∨ (a_priorities r = a_priorities x ∧ ¬ a_givenAt r ≤ a_givenAt x)) → ∀ x3, x3 = nI r + 1 → wX_bestRule_4 post (nI m) f_nodeCount f_innermost f_draftLength f_rulesGiven f_wrongToken f_wantedCount f_inCondition f_depth f_cursor f_outcome f_outputCount f_stepsTaken a_names a_values a_parents a_kinds a_operands a_priorities a_givenAt a_wanted a_axes a_passing a_ends a_openers a_table a_results a_matched a_listLeft a_listNode a_listPosition a_listSize a_listBody a_listReturn a_outputs f (nI r) x3 := fun q => nm_r (nI_1 r) (ih (r + 1) f (some r) (by omega) (by omega) (fun y hy => by cases hy; omega) (by rw [if_pos ⟨hbt, decide_eq_true q⟩] at hp; exact hp))
        have no : ¬ (a_priorities x < a_priorities r ∨ (a_priorities r = a_priorities x ∧ ¬ a_givenAt r ≤ a_givenAt x)) → ∀ x3, x3 = nI r + 1 → wX_bestRule_4 post (nI m) f_nodeCount f_innermost f_draftLength f_rulesGiven f_wrongToken f_wantedCount f_inCondition f_depth f_cursor f_outcome f_outputCount f_stepsTaken a_names a_values a_parents a_kinds a_operands a_priorities a_givenAt a_wanted a_axes a_passing a_ends a_openers a_table a_results a_matched a_listLeft a_listNode a_listPosition a_listSize a_listBody a_listReturn a_outputs f (nI x) x3 := fun q => nm_r (nI_1 r) (ih (r + 1) f (some x) (by omega) (by omega) hb (by rw [if_neg (fun z => q (of_decide_eq_true z.2))] at hp; exact hp))
        refine br_f (nI_pos (by omega)) ⟨vr, vx, ?_⟩
        rw [cr, cx]
        refine br_c (fun q => ⟨vr, vx, br_c (fun q2 => br_t rfl (no ?_)) (fun q2 => br_f (by decide) (yes (Or.inr ⟨q, q2⟩)))⟩) (fun q => ⟨vr, vx, br_c (fun q2 => br_t rfl (no ?_)) (fun q2 => br_f (by decide) (yes (Or.inl (Int32.not_le.mp q2))))⟩)
        · rintro (z | z)
          · rw [q] at z; exact Int32.lt_irrefl z
          · exact z.2 q2
        · rintro (z | z)
          · exact Int32.not_lt.mpr q2 z
          · exact q z.1
theorem xo_best {post : Int32 → Prop} {m : Nat} (hm : m < 24) (hp : post (bs_i (bs (fun r => bt (a_matched r) m) a_priorities a_givenAt 6 0 none))) : wpX_bestRule post (f_nodeCount, f_innermost, f_draftLength, f_rulesGiven, f_wrongToken, f_wantedCount, f_inCondition, f_depth, f_cursor, f_outcome, f_outputCount, f_stepsTaken, a_names, a_values, a_parents, a_kinds, a_operands, a_priorities, a_givenAt, a_wanted, a_axes, a_passing, a_ends, a_openers, a_table, a_results, a_matched, a_listLeft, a_listNode, a_listPosition, a_listSize, a_listBody, a_listReturn, a_outputs) (nI m) :=
  ⟨7, xo_best_l hm 6 0 7 none rfl (by omega) (fun y hy => nomatch hy) hp⟩
end
end
section
/-! the reference: the rule for a node; ruleFor -/
/-- a rule of the reference: absent, or an allowed text with the table tb -/
def yr_H (b_kind b_with b_bodyAt b_there b_value b_parent b_name : Nat → Int32) (K : Nat → Nat → Nat) (O : Nat → Nat → Int32) (len : Nat → Nat) (n : Nat) (tb : Nat → Nat → Nat → Int32) (r : Nat) : Prop :=
  b_there r = 0 ∨ (b_there r = 1 ∧ gm_W (K r) (len r) ∧ K r 0 = 15 ∧ 0 < len r ∧ ys_k b_kind b_with (30 * r) (K r) (O r) (len r) ∧ (∀ x, x < len r → K r x = 15 → ∃ v, v < 72 ∧ O r x = nI v) ∧ b_bodyAt r = nI (gm_e (K r) 0) ∧ ∀ c, c < len r → nu_TE (K r) (O r) b_value b_parent b_name (len r) n (tb r) c)
section
variable {g_nodes g_inner g_rules g_place g_listed g_depth g_row g_pc g_node g_position g_size g_fault g_put g_steps : Int32} {b_name b_parent b_value b_kind b_with b_count b_bodyAt b_priority b_given b_there b_wanted b_waiting b_within b_list b_left b_reached b_sizes b_each b_backRow b_backPc b_backNode b_backPosition b_backSize b_output : Nat → Int32}
theorem yo_matches_l {post : Int32 → SY → Prop} {K : Nat → Nat → Nat} {O : Nat → Nat → Int32} {len : Nat → Nat} {n r m : Nat} {tb : Nat → Nat → Nat → Int32} (T : tr_T b_parent n) (hr : r < 6) (hm : m < n) (t1 : b_there r = 1) (W : gm_W (K r) (len r)) (k15 : K r 0 = 15) (h0l : 0 < len r) (hk : ys_k b_kind b_with (30 * r) (K r) (O r) (len r)) (hov : ∀ x, x < len r → K r x = 15 → ∃ v, v < 72 ∧ O r x = nI v) (hb : b_bodyAt r = nI (gm_e (K r) 0)) (TE : ∀ c, c < len r → nu_TE (K r) (O r) b_value b_parent b_name (len r) n (tb r) c) :
    ∀ a f gl bl bw, a < n → a + 1 < f →
      ((∃ b, b < n ∧ (a = b ∨ tr_a b_parent b a = true) ∧ bt (tb r 0 b) m = true) → ∀ (gl : Int32) (bl bw : Nat → Int32), post 1 (nI n, g_inner, g_rules, g_place, gl, g_depth, g_row, g_pc, g_node, g_position, g_size, g_fault, g_put, g_steps, b_name, b_parent, b_value, b_kind, b_with, b_count, b_bodyAt, b_priority, b_given, b_there, b_wanted, b_waiting, bw, bl, b_left, b_reached, b_sizes, b_each, b_backRow, b_backPc, b_backNode, b_backPosition, b_backSize, b_output)) →
      (¬ (∃ b, b < n ∧ (a = b ∨ tr_a b_parent b a = true) ∧ bt (tb r 0 b) m = true) → ∀ (gl : Int32) (bl bw : Nat → Int32), post 0 (nI n, g_inner, g_rules, g_place, gl, g_depth, g_row, g_pc, g_node, g_position, g_size, g_fault, g_put, g_steps, b_name, b_parent, b_value, b_kind, b_with, b_count, b_bodyAt, b_priority, b_given, b_there, b_wanted, b_waiting, bw, bl, b_left, b_reached, b_sizes, b_each, b_backRow, b_backPc, b_backNode, b_backPosition, b_backSize, b_output)) →
      wY_matches_2 post (nI r) (nI m) f (nI a) (nI n) g_inner g_rules g_place gl g_depth g_row g_pc g_node g_position g_size g_fault g_put g_steps b_name b_parent b_value b_kind b_with b_count b_bodyAt b_priority b_given b_there b_wanted b_waiting bw bl b_left b_reached b_sizes b_each b_backRow b_backPc b_backNode b_backPosition b_backSize b_output := by
  have hn := T.1
  have e30 : (30 : Int32) * nI r = nI (30 * r) := by rw [show (30 : Int32) = nI 30 from rfl, pk_mul]
  have cr : (nI r).toNatClampNeg = r := nI_clamp (by omega)
  intro a
  induction a using Nat.strongRecOn with
  | _ a ih =>
    intro f gl bl bw ha hf h1 h0
    obtain ⟨f, rfl⟩ : ∃ x, f = x + 1 := ⟨f - 1, by omega⟩
    refine br_f (nI_pos (by omega)) ⟨vp_in_nI hr (by omega), ?_⟩
    rw [e30, cr, hb, nI_add]
    have hel := (W.2.2 0 h0l).2.1
    refine yw_path (y := 30 * r) (i := 0) (tb := tb r) (g_listed := gl) (b_list := bl) (b_within := bw) W (by omega) hk T hov TE hel k15 (Nat.le_refl _) h0l ha fun gl' bl' bw' => ?_
    cases hbt : bt (tb r 0 a) m
    · refine br_t (ms_f (by omega) hbt) ⟨vp_in_nI (by omega) (by omega), nm_r (e' := b_parent a) (by rw [nI_clamp (by omega)]) ?_⟩
      by_cases hp : b_parent a < 0
      · obtain ⟨f, rfl⟩ : ∃ x, f = x + 1 := ⟨f - 1, by omega⟩
        refine br_t hp (h0 ?_ gl' bl' bw')
        rintro ⟨b, b1, b2, b3⟩
        rcases b2 with b2 | b2
        · rw [← b2, hbt] at b3; exact nomatch b3
        · rw [tr_a0 hp] at b2; exact nomatch b2
      · obtain ⟨p, pa, e⟩ := tr_par T ha hp
        rw [e]
        have eqv : (∃ b, b < n ∧ (p = b ∨ tr_a b_parent b p = true) ∧ bt (tb r 0 b) m = true) ↔ ∃ b, b < n ∧ (a = b ∨ tr_a b_parent b a = true) ∧ bt (tb r 0 b) m = true := by
          constructor
          · rintro ⟨b, b1, b2, b3⟩
            refine ⟨b, b1, Or.inr ?_, b3⟩
            rw [tr_as T ha pa e, Bool.or_eq_true, decide_eq_true_eq]
            exact b2
          · rintro ⟨b, b1, b2, b3⟩
            rcases b2 with b2 | b2
            · rw [← b2, hbt] at b3; exact nomatch b3
            · rw [tr_as T ha pa e, Bool.or_eq_true, decide_eq_true_eq] at b2
              exact ⟨b, b1, b2, b3⟩
        exact ih p pa f gl' bl' bw' (by omega) (by omega) (fun z => h1 (eqv.mp z)) (fun z => h0 (fun y => z (eqv.mpr y)))
    · exact br_f (ms_t (by omega) hbt) (h1 ⟨a, ha, Or.inl rfl, hbt⟩ gl' bl' bw')
theorem yo_rf_l {post : Int32 → SY → Prop} {K : Nat → Nat → Nat} {O : Nat → Nat → Int32} {len : Nat → Nat} {n m : Nat} {tb : Nat → Nat → Nat → Int32} {M : Nat → Bool} {G : Nat → Int32} (T : tr_T b_parent n) (hm : m < n) (H : ∀ r, r < 6 → yr_H b_kind b_with b_bodyAt b_there b_value b_parent b_name K O len n tb r)
    (hM0 : ∀ r, r < 6 → b_there r = 0 → M r = false) (hM1 : ∀ r, r < 6 → b_there r = 1 → (M r = true ↔ ∃ b, b < n ∧ (m = b ∨ tr_a b_parent b m = true) ∧ bt (tb r 0 b) m = true))
    (hG : ∀ r x, r < 6 → x < 6 → b_there r = 1 → b_there x = 1 → (b_given r ≤ b_given x ↔ G r ≤ G x)) :
    ∀ d r f b gl bl bw, r + d = 6 → d < f → (∀ y, b = some y → y < 6 ∧ b_there y = 1) → (∀ (gl : Int32) (bl bw : Nat → Int32), post (bs_i (bs M b_priority G d r b)) (nI n, g_inner, g_rules, g_place, gl, g_depth, g_row, g_pc, g_node, g_position, g_size, g_fault, g_put, g_steps, b_name, b_parent, b_value, b_kind, b_with, b_count, b_bodyAt, b_priority, b_given, b_there, b_wanted, b_waiting, bw, bl, b_left, b_reached, b_sizes, b_each, b_backRow, b_backPc, b_backNode, b_backPosition, b_backSize, b_output)) →
      wY_ruleFor_18 post (nI m) f (bs_i b) (nI r) (nI n) g_inner g_rules g_place gl g_depth g_row g_pc g_node g_position g_size g_fault g_put g_steps b_name b_parent b_value b_kind b_with b_count b_bodyAt b_priority b_given b_there b_wanted b_waiting bw bl b_left b_reached b_sizes b_each b_backRow b_backPc b_backNode b_backPosition b_backSize b_output := by
  have hn := T.1
  intro d
  induction d with
  | zero =>
    intro r f b gl bl bw hr hf hb hp
    obtain ⟨f, rfl⟩ : ∃ x, f = x + 1 := ⟨f - 1, by omega⟩
    have e : r = 6 := by omega
    subst e
    exact br_t (by decide) (hp gl bl bw)
  | succ d ih =>
    intro r f b gl bl bw hr hf hb hp
    obtain ⟨f, rfl⟩ : ∃ x, f = x + 1 := ⟨f - 1, by omega⟩
    have r6 : r < 6 := by omega
    have cr : (nI r).toNatClampNeg = r := nI_clamp (by omega)
    have vr : vp_in (nI r) 6 := vp_in_nI r6 (by omega)
    have keep : ∀ gl bl bw, ¬ (M r = true ∧ bs_f b_priority G r b = true) → ∀ x3, x3 = nI r + 1 → wY_ruleFor_18 post (nI m) f (bs_i b) x3 (nI n) g_inner g_rules g_place gl g_depth g_row g_pc g_node g_position g_size g_fault g_put g_steps b_name b_parent b_value b_kind b_with b_count b_bodyAt b_priority b_given b_there b_wanted b_waiting bw bl b_left b_reached b_sizes b_each b_backRow b_backPc b_backNode b_backPosition b_backSize b_output := fun gl bl bw q => nm_r (nI_1 r) (ih (r + 1) f b gl bl bw (by omega) (by omega) hb (fun gl bl bw => by
      have := hp gl bl bw
      rw [bs, if_neg q] at this
      exact this))
    have w86 : ¬ (M r = true ∧ bs_f b_priority G r b = true) → wY_ruleFor_86 post (wY_ruleFor_18 post (nI m) f) (nI m) (bs_i b) (nI r) (nI n) g_inner g_rules g_place gl g_depth g_row g_pc g_node g_position g_size g_fault g_put g_steps b_name b_parent b_value b_kind b_with b_count b_bodyAt b_priority b_given b_there b_wanted b_waiting bw bl b_left b_reached b_sizes b_each b_backRow b_backPc b_backNode b_backPosition b_backSize b_output := fun q => br_t rfl (keep gl bl bw q)
    refine br_f (nI_ge (b := 6) r6 (by decide)) ⟨vr, ?_⟩
    rw [cr]
    rcases H r r6 with t0 | ⟨t1, W, k15, h0l, hk, hov, hbd, TE⟩
    · exact br_t t0 (w86 (fun z => by rw [hM0 r r6 t0] at z; exact nomatch z.1))
    · have m1 := hM1 r r6 t1
      have w82 : bs_f b_priority G r b = true → wY_ruleFor_82 post (wY_ruleFor_18 post (nI m) f) (nI m) (bs_i b) (nI r) (nI n) g_inner g_rules g_place gl g_depth g_row g_pc g_node g_position g_size g_fault g_put g_steps b_name b_parent b_value b_kind b_with b_count b_bodyAt b_priority b_given b_there b_wanted b_waiting bw bl b_left b_reached b_sizes b_each b_backRow b_backPc b_backNode b_backPosition b_backSize b_output := fun q => by
        refine br_f (by decide) ⟨m + 2, yo_matches_l T r6 hm t1 W k15 h0l hk hov hbd TE m _ gl bl bw hm (by omega) (fun z gl' bl' bw' => br_f (by decide) (nm_r (nI_1 r) (ih (r + 1) f (some r) gl' bl' bw' (by omega) (by omega) (fun y hy => by cases hy; exact ⟨r6, t1⟩) (fun gl bl bw => ?_)))) (fun z gl' bl' bw' => br_t rfl (keep gl' bl' bw' (fun y => z (m1.mp y.1))))⟩
        have := hp gl bl bw
        rw [bs, if_pos ⟨m1.mpr z, q⟩] at this
        exact this
      refine br_f (by rw [t1]; decide) ?_
      cases b with
      | none => exact br_t (by decide) (w82 rfl)
      | some x =>
        obtain ⟨x6, tx⟩ := hb x rfl
        have cx : (bs_i (some x)).toNatClampNeg = x := nI_clamp (n := x) (by omega)
        have vx : vp_in (bs_i (some x)) 6 := vp_in_nI (n := x) x6 (by omega)
        have bf : bs_f b_priority G r (some x) = true ↔ (b_priority x < b_priority r ∨ (b_priority r = b_priority x ∧ ¬ G r ≤ G x)) := decide_eq_true_iff
        refine br_f (nI_pos (n := x) (by omega)) ⟨vr, vx, ?_⟩
        rw [cx]
        refine br_c (fun q => w82 (bf.mpr (Or.inl q))) (fun q => ⟨vr, vx, br_c (fun q2 => ⟨vr, vx, br_c (fun q3 => w86 ?_) (fun q3 => w82 (bf.mpr (Or.inr ⟨q2, fun z => q3 ((hG r x r6 x6 t1 tx).mpr z)⟩)))⟩) (fun q2 => w86 ?_)⟩)
        · rintro ⟨_, z⟩
          rcases bf.mp z with z | z
          · exact q z
          · exact z.2 ((hG r x r6 x6 t1 tx).mp q3)
        · rintro ⟨_, z⟩
          rcases bf.mp z with z | z
          · exact q z
          · exact q2 z.1
theorem yo_ruleFor {post : Int32 → SY → Prop} {K : Nat → Nat → Nat} {O : Nat → Nat → Int32} {len : Nat → Nat} {n m : Nat} {tb : Nat → Nat → Nat → Int32} {M : Nat → Bool} {G : Nat → Int32} (T : tr_T b_parent n) (hm : m < n) (H : ∀ r, r < 6 → yr_H b_kind b_with b_bodyAt b_there b_value b_parent b_name K O len n tb r)
    (hM0 : ∀ r, r < 6 → b_there r = 0 → M r = false) (hM1 : ∀ r, r < 6 → b_there r = 1 → (M r = true ↔ ∃ b, b < n ∧ (m = b ∨ tr_a b_parent b m = true) ∧ bt (tb r 0 b) m = true))
    (hG : ∀ r x, r < 6 → x < 6 → b_there r = 1 → b_there x = 1 → (b_given r ≤ b_given x ↔ G r ≤ G x))
    (hp : ∀ (gl : Int32) (bl bw : Nat → Int32), post (bs_i (bs M b_priority G 6 0 none)) (nI n, g_inner, g_rules, g_place, gl, g_depth, g_row, g_pc, g_node, g_position, g_size, g_fault, g_put, g_steps, b_name, b_parent, b_value, b_kind, b_with, b_count, b_bodyAt, b_priority, b_given, b_there, b_wanted, b_waiting, bw, bl, b_left, b_reached, b_sizes, b_each, b_backRow, b_backPc, b_backNode, b_backPosition, b_backSize, b_output)) : wpY_ruleFor post (nI n, g_inner, g_rules, g_place, g_listed, g_depth, g_row, g_pc, g_node, g_position, g_size, g_fault, g_put, g_steps, b_name, b_parent, b_value, b_kind, b_with, b_count, b_bodyAt, b_priority, b_given, b_there, b_wanted, b_waiting, b_within, b_list, b_left, b_reached, b_sizes, b_each, b_backRow, b_backPc, b_backNode, b_backPosition, b_backSize, b_output) (nI m) := by
  unfold wpY_ruleFor
  exact yo_outT hm (by have := T.1; omega) (br_t rfl ⟨7, yo_rf_l T hm H hM0 hM1 hG 6 0 7 none g_listed b_list b_within rfl (by omega) (fun y hy => nomatch hy) hp⟩)
end
section
variable {n : Nat} {K : Nat → Nat → Nat} {len : Nat → Nat} {g : Nat} {f_innermost f_wrongToken f_wantedCount f_inCondition f_depth f_cursor f_outcome f_outputCount f_stepsTaken : Int32} {a_names a_values a_parents a_kinds a_operands a_priorities a_givenAt a_wanted a_axes a_passing a_ends a_openers a_table a_results a_matched a_listLeft a_listNode a_listPosition a_listSize a_listBody a_listReturn a_outputs : Nat → Int32} {g_listed g_depth g_row g_pc g_node g_position g_size g_fault : Int32} {b_kind b_with b_count b_bodyAt b_given b_there b_wanted b_waiting b_within b_list b_left b_reached b_sizes b_each b_backRow b_backPc b_backNode b_backPosition b_backSize : Nat → Int32}
/-- what is known of both sides behind the table and the matches -/
theorem rl_xt {k r : Nat} (S : rl_S a_kinds a_operands b_kind b_with K len r) (Rr : rl_R k K len a_givenAt b_count b_bodyAt b_given b_there r) : xt_S a_kinds a_operands K len r := by
  obtain ⟨s1, s2, s3, s4, s5⟩ := S
  rcases Rr with ⟨_, l0⟩ | ⟨_, W, _⟩
  · exact ⟨⟨s1, s2, fun c hc => absurd hc (by omega)⟩, s3, fun c hc => absurd hc (by omega)⟩
  · exact ⟨W, s3, fun c hc => (s5 c hc).2⟩
theorem rl_yH {k r : Nat} {E B Tb : Nat → Int32} (hr : r < 6) (S : rl_S a_kinds a_operands b_kind b_with K len r) (Rr : rl_R k K len a_givenAt b_count b_bodyAt b_given b_there r) (hD : xt_D a_operands a_values a_parents a_names K len n E B Tb 0 192) :
    yr_H b_kind b_with b_bodyAt b_there a_values a_parents a_names K (fun r x => a_operands (32 * r + x)) len n (fun r x a => Tb ((32 * r + x) * 24 + a)) r := by
  obtain ⟨s1, s2, s3, s4, s5⟩ := S
  rcases Rr with ⟨t0, _⟩ | ⟨t1, W, k15, hl, _, _, hb, _⟩
  · exact Or.inl t0
  · refine Or.inr ⟨t1, W, k15, hl, s4, fun x hx kx => ?_, hb, fun c hc => (hD r c (by omega) (by omega) (by omega)).2.1 hc⟩
    obtain ⟨v, v1, v2, v3⟩ := (s5 x hx).2 kx
    exact ⟨v, v1, v3⟩
theorem rl_G {k : Nat} (hk : k < 10000) (Rr : ∀ r, r < 6 → rl_R k K len a_givenAt b_count b_bodyAt b_given b_there r) : ∀ r x, r < 6 → x < 6 → b_there r = 1 → b_there x = 1 → (b_given r ≤ b_given x ↔ a_givenAt r ≤ a_givenAt x) := by
  intro r x hr hx t1 t2
  rcases Rr r hr with ⟨z, _⟩ | ⟨_, _, _, _, _, _, _, q, hq, q1, q2⟩
  · rw [t1] at z; exact absurd z (by decide)
  rcases Rr x hx with ⟨z, _⟩ | ⟨_, _, _, _, _, _, _, p, hp, p1, p2⟩
  · rw [t2] at z; exact absurd z (by decide)
  rw [q1, q2, p1, p2, nI_leI (by omega) (by omega), nI_leI (by omega) (by omega)]
  omega
theorem rl_M {k m : Nat} {Tb M : Nat → Int32} (hm : m < n) (Rr : ∀ r, r < 6 → rl_R k K len a_givenAt b_count b_bodyAt b_given b_there r) (S : ∀ r, r < 7 → rl_S a_kinds a_operands b_kind b_with K len r) (hM : ∀ r, r < 6 → ∀ i, i < n → (bt (M r) i = true ↔ K r 0 = 15 ∧ ∃ a, a < n ∧ bt (Tb (32 * r * 24 + a)) i = true ∧ (i = a ∨ tr_a a_parents a i = true))) :
    (∀ r, r < 6 → b_there r = 0 → bt (M r) m = false) ∧ (∀ r, r < 6 → b_there r = 1 → (bt (M r) m = true ↔ ∃ b, b < n ∧ (m = b ∨ tr_a a_parents b m = true) ∧ bt (Tb ((32 * r + 0) * 24 + b)) m = true)) := by
  constructor
  · intro r hr t0
    cases hb : bt (M r) m
    · rfl
    · have := ((hM r hr m hm).mp hb).1
      rcases Rr r hr with ⟨_, l0⟩ | ⟨t1, _⟩
      · have := (S r (by omega)).2.1 0 (by omega); omega
      · rw [t0] at t1; exact absurd t1 (by decide)
  · intro r hr t1
    have k15 : K r 0 = 15 := by
      rcases Rr r hr with ⟨t0, _⟩ | ⟨_, _, k15, _⟩
      · rw [t0] at t1; exact absurd t1 (by decide)
      · exact k15
    rw [hM r hr m hm]
    constructor
    · rintro ⟨_, a, a1, a2, a3⟩; exact ⟨a, a1, a3, a2⟩
    · rintro ⟨a, a1, a2, a3⟩; exact ⟨k15, a, a1, a3, a2⟩
end
theorem i_vc_ruleFor {k : Nat} {u : SX} {v : SY} (I : i_Rel k u v) (hk : k + 4 ≤ 2048) (v1 : Int32) : wpX_ruleFor (fun r u' => wpY_ruleFor (fun r' v' => r' = r ∧ i_Rel (k + 4) u' v') v v1) u v1 := by
  refine i_elim (Q := fun u v => wpX_ruleFor (fun r u' => wpY_ruleFor (fun r' v' => r' = r ∧ i_Rel (k + 4) u' v') v v1) u v1) I ?_
  intro n K len g f_innermost f_wrongToken f_wantedCount f_inCondition f_depth f_cursor f_outcome f_outputCount f_stepsTaken a_names a_values a_parents a_kinds a_operands a_priorities a_givenAt a_wanted a_axes a_passing a_ends a_openers a_table a_results a_matched a_listLeft a_listNode a_listPosition a_listSize a_listBody a_listReturn a_outputs g_listed g_depth g_row g_pc g_node g_position g_size g_fault b_kind b_with b_count b_bodyAt b_given b_there b_wanted b_waiting b_within b_list b_left b_reached b_sizes b_each b_backRow b_backPc b_backNode b_backPosition b_backSize R
  have R4 := rl_up (k' := k + 4) (by omega) R
  obtain ⟨h1, h2, h3, h4, h5, h6, h7⟩ := R4
  have hn := h1.1
  rcases so_ix v1 n (by omega) with q | ⟨m, hm, rfl⟩
  · have Y0 : wpY_ruleFor (fun r' v' => r' = -2 ∧ i_Rel (k + 4) (nI n, f_innermost, nI (len 6), nI g, f_wrongToken, f_wantedCount, f_inCondition, f_depth, f_cursor, f_outcome, f_outputCount, f_stepsTaken, a_names, a_values, a_parents, a_kinds, a_operands, a_priorities, a_givenAt, a_wanted, a_axes, a_passing, a_ends, a_openers, a_table, a_results, a_matched, a_listLeft, a_listNode, a_listPosition, a_listSize, a_listBody, a_listReturn, a_outputs) v') (nI n, f_innermost, nI g, f_wrongToken, g_listed, g_depth, g_row, g_pc, g_node, g_position, g_size, g_fault, f_outputCount, f_stepsTaken, a_names, a_parents, a_values, b_kind, b_with, b_count, b_bodyAt, a_priorities, b_given, b_there, b_wanted, b_waiting, b_within, b_list, b_left, b_reached, b_sizes, b_each, b_backRow, b_backPc, b_backNode, b_backPosition, b_backSize, a_outputs) v1 := by
      unfold wpY_ruleFor
      exact yo_outF q (br_f (by decide) ⟨rfl, i_mk (K := K) ⟨h1, h2, h3, h4, h5, h6, h7⟩⟩)
    unfold wpX_ruleFor
    exact xo_nodeF q (br_t rfl Y0)
  · unfold wpX_ruleFor
    refine xo_nodeT hm hn (br_f (by decide) ?_)
    refine xw_tabulate (lo := 0) (hi := 192) (K := K) (len := len) (by omega) (by omega) (by omega) (by omega) h1 h2 (fun r _ r2 => rl_xt (h6 r (by omega)) (h7 r (by omega))) fun A Q E B Tb Rs hA hD => ?_
    refine xo_match (K := K) hn hA (fun r hr => ⟨(h6 r (by omega)).2.2.1 0 (by omega), gm_k26 (rl_xt (h6 r (by omega)) (h7 r hr)).1 0⟩) fun M hM => ?_
    refine xo_best (by omega) ?_
    obtain ⟨m0, m1⟩ := rl_M hm h7 h6 hM
    exact yo_ruleFor (M := fun r => bt (M r) m) (G := a_givenAt) (tb := fun r x a => Tb ((32 * r + x) * 24 + a)) h1 hm (fun r hr => rl_yH hr (h6 r (by omega)) (h7 r hr) hD) m0 m1 (rl_G (by omega) h7) fun gl bl bw => ⟨rfl, i_mk (K := K) ⟨h1, h2, h3, h4, h5, h6, h7⟩⟩
end
section
/-! transform: the single steps -/
section
variable {f_nodeCount f_innermost f_draftLength f_rulesGiven f_wrongToken f_wantedCount f_inCondition f_depth f_cursor f_outcome f_outputCount f_stepsTaken : Int32} {a_names a_values a_parents a_kinds a_operands a_priorities a_givenAt a_wanted a_axes a_passing a_ends a_openers a_table a_results a_matched a_listLeft a_listNode a_listPosition a_listSize a_listBody a_listReturn a_outputs : Nat → Int32}
def tf_o (ou : Nat → Int32) (oc : Nat) (v : Int32) : Nat → Int32 := if oc < 60 then upd ou oc v else ou
theorem xt_put {post : SX → Prop} {oc : Nat} {v : Int32} (h : oc < 2 ^ 30) (hp : post (f_nodeCount, f_innermost, f_draftLength, f_rulesGiven, f_wrongToken, f_wantedCount, f_inCondition, f_depth, f_cursor, f_outcome, nI (oc + 1), f_stepsTaken, a_names, a_values, a_parents, a_kinds, a_operands, a_priorities, a_givenAt, a_wanted, a_axes, a_passing, a_ends, a_openers, a_table, a_results, a_matched, a_listLeft, a_listNode, a_listPosition, a_listSize, a_listBody, a_listReturn, tf_o a_outputs oc v)) : wpX_putOut post (f_nodeCount, f_innermost, f_draftLength, f_rulesGiven, f_wrongToken, f_wantedCount, f_inCondition, f_depth, f_cursor, f_outcome, nI oc, f_stepsTaken, a_names, a_values, a_parents, a_kinds, a_operands, a_priorities, a_givenAt, a_wanted, a_axes, a_passing, a_ends, a_openers, a_table, a_results, a_matched, a_listLeft, a_listNode, a_listPosition, a_listSize, a_listBody, a_listReturn, a_outputs) v := by
  unfold tf_o at hp
  by_cases q : oc < 60
  · rw [if_pos q] at hp
    exact br_f (nI_ge (b := 60) q (by omega)) ⟨vp_in_nI q (by omega), nm_r (e' := upd a_outputs oc v) (by rw [nI_clamp (by omega)]) (nm_r (nI_1 oc) hp)⟩
  · rw [if_neg q] at hp
    exact br_t (nI_le (a := 60) (by omega) (by omega)) (nm_r (nI_1 oc) hp)
theorem xt_beginT {post : SX → Prop} {d : Nat} {x b ret : Int32} (hd : d < 12) (hp : post (f_nodeCount, f_innermost, f_draftLength, f_rulesGiven, f_wrongToken, f_wantedCount, f_inCondition, nI (d + 1), 223, f_outcome, f_outputCount, f_stepsTaken, a_names, a_values, a_parents, a_kinds, a_operands, a_priorities, a_givenAt, a_wanted, a_axes, a_passing, a_ends, a_openers, a_table, a_results, a_matched, upd a_listLeft d x, a_listNode, upd a_listPosition d 0, upd a_listSize d (nI (nu_cnt x 24)), upd a_listBody d b, upd a_listReturn d ret, a_outputs)) : wpX_beginList post (f_nodeCount, f_innermost, f_draftLength, f_rulesGiven, f_wrongToken, f_wantedCount, f_inCondition, nI d, f_cursor, f_outcome, f_outputCount, f_stepsTaken, a_names, a_values, a_parents, a_kinds, a_operands, a_priorities, a_givenAt, a_wanted, a_axes, a_passing, a_ends, a_openers, a_table, a_results, a_matched, a_listLeft, a_listNode, a_listPosition, a_listSize, a_listBody, a_listReturn, a_outputs) x b ret := by
  have cd : (nI d).toNatClampNeg = d := nI_clamp (by omega)
  have vd : vp_in (nI d) 12 := vp_in_nI hd (by omega)
  exact br_t (nI_lt (b := 12) hd (by omega)) ⟨vd, nm_r (e' := upd a_listLeft d x) (by rw [cd]) ⟨vd, nm_r (e' := upd a_listPosition d 0) (by rw [cd]) (xw_nodesIn ⟨vd, nm_r (e' := upd a_listSize d (nI (nu_cnt x 24))) (by rw [cd]) ⟨vd, nm_r (e' := upd a_listBody d b) (by rw [cd]) ⟨vd, nm_r (e' := upd a_listReturn d ret) (by rw [cd]) (nm_r (nI_1 d) hp)⟩⟩⟩)⟩⟩
theorem xt_beginF {post : SX → Prop} {d : Nat} {x b ret : Int32} (hd : d = 12) (hp : post (f_nodeCount, f_innermost, f_draftLength, f_rulesGiven, f_wrongToken, f_wantedCount, f_inCondition, nI d, f_cursor, 2, f_outputCount, f_stepsTaken, a_names, a_values, a_parents, a_kinds, a_operands, a_priorities, a_givenAt, a_wanted, a_axes, a_passing, a_ends, a_openers, a_table, a_results, a_matched, a_listLeft, a_listNode, a_listPosition, a_listSize, a_listBody, a_listReturn, a_outputs)) : wpX_beginList post (f_nodeCount, f_innermost, f_draftLength, f_rulesGiven, f_wrongToken, f_wantedCount, f_inCondition, nI d, f_cursor, f_outcome, f_outputCount, f_stepsTaken, a_names, a_values, a_parents, a_kinds, a_operands, a_priorities, a_givenAt, a_wanted, a_axes, a_passing, a_ends, a_openers, a_table, a_results, a_matched, a_listLeft, a_listNode, a_listPosition, a_listSize, a_listBody, a_listReturn, a_outputs) x b ret :=
  br_f (by rw [hd]; decide) hp
theorem xt_handleR {post : SX → Prop} {m r : Nat} {e0 : Int32} (hm : m < 24) (hr : r < 6) (hb : bs (fun r => bt (a_matched r) m) a_priorities a_givenAt 6 0 none = some r) (he : a_ends (32 * r) = e0) (hp : post (f_nodeCount, f_innermost, f_draftLength, f_rulesGiven, f_wrongToken, f_wantedCount, f_inCondition, f_depth, e0, f_outcome, f_outputCount, f_stepsTaken, a_names, a_values, a_parents, a_kinds, a_operands, a_priorities, a_givenAt, a_wanted, a_axes, a_passing, a_ends, a_openers, a_table, a_results, a_matched, a_listLeft, a_listNode, a_listPosition, a_listSize, a_listBody, a_listReturn, a_outputs)) : wpX_handle post (f_nodeCount, f_innermost, f_draftLength, f_rulesGiven, f_wrongToken, f_wantedCount, f_inCondition, f_depth, f_cursor, f_outcome, f_outputCount, f_stepsTaken, a_names, a_values, a_parents, a_kinds, a_operands, a_priorities, a_givenAt, a_wanted, a_axes, a_passing, a_ends, a_openers, a_table, a_results, a_matched, a_listLeft, a_listNode, a_listPosition, a_listSize, a_listBody, a_listReturn, a_outputs) (nI m) := by
  have e24 : (24 : Int32) + nI m = nI (24 + m) := nI_add 24 m
  have e32 : nI r * 32 = nI (32 * r) := by rw [show (32 : Int32) = nI 32 from rfl, pk_mul, Nat.mul_comm]
  unfold wpX_handle
  refine xo_best hm ?_
  rw [hb]
  refine ⟨by rw [e24]; exact vp_in_nI (by omega) (by omega), nm_e (br_f (nI_pos (n := r) (by omega)) ?_)⟩
  show vp_in (nI r * 32) 224 ∧ _
  rw [e32]
  exact ⟨vp_in_nI (by omega) (by omega), nm_r (e' := e0) (by rw [show (bs_i (some r)) = nI r from rfl, e32, nI_clamp (by omega)]; exact he) hp⟩
theorem xt_handleV {post : SX → Prop} {m oc : Nat} (hm : m < 24) (ho : oc < 2 ^ 30) (hb : bs (fun r => bt (a_matched r) m) a_priorities a_givenAt 6 0 none = none) (hc : a_axes (24 + m) = 0) (hp : post (f_nodeCount, f_innermost, f_draftLength, f_rulesGiven, f_wrongToken, f_wantedCount, f_inCondition, f_depth, 223, f_outcome, nI (oc + 1), f_stepsTaken, a_names, a_values, a_parents, a_kinds, a_operands, a_priorities, a_givenAt, a_wanted, a_axes, a_passing, a_ends, a_openers, a_table, a_results, a_matched, a_listLeft, a_listNode, a_listPosition, a_listSize, a_listBody, a_listReturn, tf_o a_outputs oc (a_values m))) : wpX_handle post (f_nodeCount, f_innermost, f_draftLength, f_rulesGiven, f_wrongToken, f_wantedCount, f_inCondition, f_depth, f_cursor, f_outcome, nI oc, f_stepsTaken, a_names, a_values, a_parents, a_kinds, a_operands, a_priorities, a_givenAt, a_wanted, a_axes, a_passing, a_ends, a_openers, a_table, a_results, a_matched, a_listLeft, a_listNode, a_listPosition, a_listSize, a_listBody, a_listReturn, a_outputs) (nI m) := by
  have e24 : (24 : Int32) + nI m = nI (24 + m) := nI_add 24 m
  unfold wpX_handle
  refine xo_best hm ?_
  rw [hb]
  refine ⟨by rw [e24]; exact vp_in_nI (by omega) (by omega), nm_r (e' := a_axes (24 + m)) (by rw [e24, nI_clamp (by omega)]) (br_t (by decide) (br_t hc ⟨vp_in_nI hm (by omega), ?_⟩))⟩
  rw [nI_clamp (by omega)]
  exact xt_put ho hp
theorem xt_handleC {post : SX → Prop} {m : Nat} (hm : m < 24) (hb : bs (fun r => bt (a_matched r) m) a_priorities a_givenAt 6 0 none = none) (hc : ¬ a_axes (24 + m) = 0) (hp : wpX_beginList post (f_nodeCount, f_innermost, f_draftLength, f_rulesGiven, f_wrongToken, f_wantedCount, f_inCondition, f_depth, 223, f_outcome, f_outputCount, f_stepsTaken, a_names, a_values, a_parents, a_kinds, a_operands, a_priorities, a_givenAt, a_wanted, a_axes, a_passing, a_ends, a_openers, a_table, a_results, a_matched, a_listLeft, a_listNode, a_listPosition, a_listSize, a_listBody, a_listReturn, a_outputs) (a_axes (24 + m)) (-1) 223) : wpX_handle post (f_nodeCount, f_innermost, f_draftLength, f_rulesGiven, f_wrongToken, f_wantedCount, f_inCondition, f_depth, f_cursor, f_outcome, f_outputCount, f_stepsTaken, a_names, a_values, a_parents, a_kinds, a_operands, a_priorities, a_givenAt, a_wanted, a_axes, a_passing, a_ends, a_openers, a_table, a_results, a_matched, a_listLeft, a_listNode, a_listPosition, a_listSize, a_listBody, a_listReturn, a_outputs) (nI m) := by
  have e24 : (24 : Int32) + nI m = nI (24 + m) := nI_add 24 m
  unfold wpX_handle
  refine xo_best hm ?_
  rw [hb]
  exact ⟨by rw [e24]; exact vp_in_nI (by omega) (by omega), nm_r (e' := a_axes (24 + m)) (by rw [e24, nI_clamp (by omega)]) (br_t (by decide) (br_f hc hp))⟩
theorem xt_adv0 {post : SX → Prop} {e : Nat} (he : e < 12) (h0 : a_listLeft e = 0) (hp : post (f_nodeCount, f_innermost, f_draftLength, f_rulesGiven, f_wrongToken, f_wantedCount, f_inCondition, nI e, a_listReturn e, f_outcome, f_outputCount, f_stepsTaken, a_names, a_values, a_parents, a_kinds, a_operands, a_priorities, a_givenAt, a_wanted, a_axes, a_passing, a_ends, a_openers, a_table, a_results, a_matched, a_listLeft, a_listNode, a_listPosition, a_listSize, a_listBody, a_listReturn, a_outputs)) : wpX_advance post (f_nodeCount, f_innermost, f_draftLength, f_rulesGiven, f_wrongToken, f_wantedCount, f_inCondition, nI (e + 1), f_cursor, f_outcome, f_outputCount, f_stepsTaken, a_names, a_values, a_parents, a_kinds, a_operands, a_priorities, a_givenAt, a_wanted, a_axes, a_passing, a_ends, a_openers, a_table, a_results, a_matched, a_listLeft, a_listNode, a_listPosition, a_listSize, a_listBody, a_listReturn, a_outputs) := by
  have ce : (nI e).toNatClampNeg = e := nI_clamp (by omega)
  have ve : vp_in (nI e) 12 := vp_in_nI he (by omega)
  refine nm_r (nI_pred e) ⟨ve, ?_⟩
  rw [ce]
  exact br_t h0 ⟨ve, nm_e (nm_r (nI_pred e) hp)⟩
theorem xt_advL {post : SX → Prop} {e : Nat} (he : e < 12) (h0 : ¬ a_listLeft e = 0) (hp : post (f_nodeCount, f_innermost, f_draftLength, f_rulesGiven, f_wrongToken, f_wantedCount, f_inCondition, nI (e + 1), f_cursor, 1, f_outputCount, nI 150, a_names, a_values, a_parents, a_kinds, a_operands, a_priorities, a_givenAt, a_wanted, a_axes, a_passing, a_ends, a_openers, a_table, a_results, a_matched, a_listLeft, a_listNode, a_listPosition, a_listSize, a_listBody, a_listReturn, a_outputs)) : wpX_advance post (f_nodeCount, f_innermost, f_draftLength, f_rulesGiven, f_wrongToken, f_wantedCount, f_inCondition, nI (e + 1), f_cursor, f_outcome, f_outputCount, nI 150, a_names, a_values, a_parents, a_kinds, a_operands, a_priorities, a_givenAt, a_wanted, a_axes, a_passing, a_ends, a_openers, a_table, a_results, a_matched, a_listLeft, a_listNode, a_listPosition, a_listSize, a_listBody, a_listReturn, a_outputs) := by
  have ce : (nI e).toNatClampNeg = e := nI_clamp (by omega)
  have ve : vp_in (nI e) 12 := vp_in_nI he (by omega)
  refine nm_r (nI_pred e) ⟨ve, ?_⟩
  rw [ce]
  exact br_f h0 (br_f (by decide) hp)
theorem xt_advN {post : SX → Prop} {e st f : Nat} (he : e < 12) (h0 : ¬ a_listLeft e = 0) (hst : st < 150) (hf : me_low (a_listLeft e) f)
    (hB : ¬ a_listBody e = -1 → post (f_nodeCount, f_innermost, f_draftLength, f_rulesGiven, f_wrongToken, f_wantedCount, f_inCondition, nI (e + 1), a_listBody e, f_outcome, f_outputCount, nI (st + 1), a_names, a_values, a_parents, a_kinds, a_operands, a_priorities, a_givenAt, a_wanted, a_axes, a_passing, a_ends, a_openers, a_table, a_results, a_matched, upd a_listLeft e (a_listLeft e &&& (a_listLeft e - 1)), upd a_listNode e (nI f), upd a_listPosition e (a_listPosition e + 1), a_listSize, a_listBody, a_listReturn, a_outputs))
    (hR : a_listBody e = -1 → wpX_handle post (f_nodeCount, f_innermost, f_draftLength, f_rulesGiven, f_wrongToken, f_wantedCount, f_inCondition, nI (e + 1), f_cursor, f_outcome, f_outputCount, nI (st + 1), a_names, a_values, a_parents, a_kinds, a_operands, a_priorities, a_givenAt, a_wanted, a_axes, a_passing, a_ends, a_openers, a_table, a_results, a_matched, upd a_listLeft e (a_listLeft e &&& (a_listLeft e - 1)), upd a_listNode e (nI f), upd a_listPosition e (a_listPosition e + 1), a_listSize, a_listBody, a_listReturn, a_outputs) (nI f)) :
    wpX_advance post (f_nodeCount, f_innermost, f_draftLength, f_rulesGiven, f_wrongToken, f_wantedCount, f_inCondition, nI (e + 1), f_cursor, f_outcome, f_outputCount, nI st, a_names, a_values, a_parents, a_kinds, a_operands, a_priorities, a_givenAt, a_wanted, a_axes, a_passing, a_ends, a_openers, a_table, a_results, a_matched, a_listLeft, a_listNode, a_listPosition, a_listSize, a_listBody, a_listReturn, a_outputs) := by
  have ce : (nI e).toNatClampNeg = e := nI_clamp (by omega)
  have ve : vp_in (nI e) 12 := vp_in_nI he (by omega)
  refine nm_r (nI_pred e) ⟨ve, ?_⟩
  rw [ce]
  refine br_f h0 (br_t (nI_lt (b := 150) hst (by omega)) (nm_r (nI_1 st) ⟨ve, xw_firstOf hf ⟨ve, nm_e ⟨ve, ve, ve, nm_e ⟨ve, ve, nm_e ⟨ve, br_c (fun q => ⟨ve, ?_⟩) (fun q => ⟨ve, nm_e (hB q)⟩)⟩⟩⟩⟩⟩))
  rw [pk_us]
  exact hR q
end
section
variable {g_nodes g_inner g_rules g_place g_listed g_depth g_row g_pc g_node g_position g_size g_fault g_put g_steps : Int32} {b_name b_parent b_value b_kind b_with b_count b_bodyAt b_priority b_given b_there b_wanted b_waiting b_within b_list b_left b_reached b_sizes b_each b_backRow b_backPc b_backNode b_backPosition b_backSize b_output : Nat → Int32}
theorem yt_put {post : SY → Prop} {oc : Nat} {v : Int32} (h : oc < 2 ^ 30) (hp : post (g_nodes, g_inner, g_rules, g_place, g_listed, g_depth, g_row, g_pc, g_node, g_position, g_size, g_fault, nI (oc + 1), g_steps, b_name, b_parent, b_value, b_kind, b_with, b_count, b_bodyAt, b_priority, b_given, b_there, b_wanted, b_waiting, b_within, b_list, b_left, b_reached, b_sizes, b_each, b_backRow, b_backPc, b_backNode, b_backPosition, b_backSize, tf_o b_output oc v)) : wpY_emit post (g_nodes, g_inner, g_rules, g_place, g_listed, g_depth, g_row, g_pc, g_node, g_position, g_size, g_fault, nI oc, g_steps, b_name, b_parent, b_value, b_kind, b_with, b_count, b_bodyAt, b_priority, b_given, b_there, b_wanted, b_waiting, b_within, b_list, b_left, b_reached, b_sizes, b_each, b_backRow, b_backPc, b_backNode, b_backPosition, b_backSize, b_output) v := by
  unfold tf_o at hp
  by_cases q : oc < 60
  · rw [if_pos q] at hp
    exact br_f (nI_ge (b := 60) q (by omega)) ⟨vp_in_nI q (by omega), nm_r (e' := upd b_output oc v) (by rw [nI_clamp (by omega)]) (nm_r (nI_1 oc) hp)⟩
  · rw [if_neg q] at hp
    exact br_t (nI_le (a := 60) (by omega) (by omega)) (nm_r (nI_1 oc) hp)
theorem yt_beginT {post : SY → Prop} {d n : Nat} {x b : Int32} (hn : n ≤ 24) (hd : d < 12) (hp : post (nI n, g_inner, g_rules, g_place, g_listed, nI (d + 1), -1, g_pc, g_node, g_position, g_size, g_fault, g_put, g_steps, b_name, b_parent, b_value, b_kind, b_with, b_count, b_bodyAt, b_priority, b_given, b_there, b_wanted, b_waiting, b_within, b_list, upd b_left d x, upd b_reached d 0, upd b_sizes d (nI (nu_cnt x n)), upd b_each d b, upd b_backRow d g_row, upd b_backPc d g_pc, upd b_backNode d g_node, upd b_backPosition d g_position, upd b_backSize d g_size, b_output)) : wpY_begin post (nI n, g_inner, g_rules, g_place, g_listed, nI d, g_row, g_pc, g_node, g_position, g_size, g_fault, g_put, g_steps, b_name, b_parent, b_value, b_kind, b_with, b_count, b_bodyAt, b_priority, b_given, b_there, b_wanted, b_waiting, b_within, b_list, b_left, b_reached, b_sizes, b_each, b_backRow, b_backPc, b_backNode, b_backPosition, b_backSize, b_output) x b := by
  have cd : (nI d).toNatClampNeg = d := nI_clamp (by omega)
  have vd : vp_in (nI d) 13 := vp_in_nI (by omega) (by omega)
  refine br_f (fun z => ?_) ⟨vd, nm_r (e' := upd b_left d x) (by rw [cd]) ⟨vd, nm_r (e' := upd b_reached d 0) (by rw [cd]) (yw_told (t := 4) hn (by omega) ⟨vd, nm_r (e' := upd b_sizes d (nI (nu_cnt x n))) (by rw [cd]; rfl) ⟨vd, nm_r (e' := upd b_each d b) (by rw [cd]) ⟨vd, nm_r (e' := upd b_backRow d g_row) (by rw [cd]) ⟨vd, nm_r (e' := upd b_backPc d g_pc) (by rw [cd]) ⟨vd, nm_r (e' := upd b_backNode d g_node) (by rw [cd]) ⟨vd, nm_r (e' := upd b_backPosition d g_position) (by rw [cd]) ⟨vd, nm_r (e' := upd b_backSize d g_size) (by rw [cd]) (nm_r (nI_1 d) hp)⟩⟩⟩⟩⟩⟩⟩)⟩⟩
  have := (nI_eq (b := 12) (by omega) (by omega)).mp z
  omega
theorem yt_beginF {post : SY → Prop} {d : Nat} {x b : Int32} (hd : d = 12) (hp : post (g_nodes, g_inner, g_rules, g_place, g_listed, nI d, g_row, g_pc, g_node, g_position, g_size, 2, g_put, g_steps, b_name, b_parent, b_value, b_kind, b_with, b_count, b_bodyAt, b_priority, b_given, b_there, b_wanted, b_waiting, b_within, b_list, b_left, b_reached, b_sizes, b_each, b_backRow, b_backPc, b_backNode, b_backPosition, b_backSize, b_output)) : wpY_begin post (g_nodes, g_inner, g_rules, g_place, g_listed, nI d, g_row, g_pc, g_node, g_position, g_size, g_fault, g_put, g_steps, b_name, b_parent, b_value, b_kind, b_with, b_count, b_bodyAt, b_priority, b_given, b_there, b_wanted, b_waiting, b_within, b_list, b_left, b_reached, b_sizes, b_each, b_backRow, b_backPc, b_backNode, b_backPosition, b_backSize, b_output) x b :=
  br_t (by rw [hd]; rfl) hp
theorem yt_next0 {post : SY → Prop} {e : Nat} (he : e < 12) (h0 : b_left e = 0) (hp : post (g_nodes, g_inner, g_rules, g_place, g_listed, nI e, b_backRow e, b_backPc e, b_backNode e, b_backPosition e, b_backSize e, g_fault, g_put, g_steps, b_name, b_parent, b_value, b_kind, b_with, b_count, b_bodyAt, b_priority, b_given, b_there, b_wanted, b_waiting, b_within, b_list, b_left, b_reached, b_sizes, b_each, b_backRow, b_backPc, b_backNode, b_backPosition, b_backSize, b_output)) : wpY_nextNode post (g_nodes, g_inner, g_rules, g_place, g_listed, nI (e + 1), g_row, g_pc, g_node, g_position, g_size, g_fault, g_put, g_steps, b_name, b_parent, b_value, b_kind, b_with, b_count, b_bodyAt, b_priority, b_given, b_there, b_wanted, b_waiting, b_within, b_list, b_left, b_reached, b_sizes, b_each, b_backRow, b_backPc, b_backNode, b_backPosition, b_backSize, b_output) := by
  have ce : (nI e).toNatClampNeg = e := nI_clamp (by omega)
  have ve : vp_in (nI e) 13 := vp_in_nI (by omega) (by omega)
  refine nm_r (nI_pred e) ⟨ve, ?_⟩
  rw [ce]
  exact br_t h0 (nm_r (nI_pred e) ⟨ve, nm_e ⟨ve, nm_e ⟨ve, nm_e ⟨ve, nm_e ⟨ve, nm_e hp⟩⟩⟩⟩⟩)
theorem yt_nextL {post : SY → Prop} {e : Nat} (he : e < 12) (h0 : ¬ b_left e = 0) (hp : post (g_nodes, g_inner, g_rules, g_place, g_listed, nI (e + 1), g_row, g_pc, g_node, g_position, g_size, 1, g_put, nI 150, b_name, b_parent, b_value, b_kind, b_with, b_count, b_bodyAt, b_priority, b_given, b_there, b_wanted, b_waiting, b_within, b_list, b_left, b_reached, b_sizes, b_each, b_backRow, b_backPc, b_backNode, b_backPosition, b_backSize, b_output)) : wpY_nextNode post (g_nodes, g_inner, g_rules, g_place, g_listed, nI (e + 1), g_row, g_pc, g_node, g_position, g_size, g_fault, g_put, nI 150, b_name, b_parent, b_value, b_kind, b_with, b_count, b_bodyAt, b_priority, b_given, b_there, b_wanted, b_waiting, b_within, b_list, b_left, b_reached, b_sizes, b_each, b_backRow, b_backPc, b_backNode, b_backPosition, b_backSize, b_output) := by
  have ce : (nI e).toNatClampNeg = e := nI_clamp (by omega)
  have ve : vp_in (nI e) 13 := vp_in_nI (by omega) (by omega)
  refine nm_r (nI_pred e) ⟨ve, ?_⟩
  rw [ce]
  exact br_f h0 (br_t (by decide) hp)
theorem yt_105 {post : SY → Prop} {e f : Nat} (he : e < 12) (hf : me_low (b_left e) f)
    (hB : ¬ b_each e < 0 → post (g_nodes, g_inner, g_rules, g_place, g_listed, g_depth, b_backRow e, b_each e, nI f, b_reached e + 1, b_sizes e, g_fault, g_put, g_steps, b_name, b_parent, b_value, b_kind, b_with, b_count, b_bodyAt, b_priority, b_given, b_there, b_wanted, b_waiting, b_within, b_list, upd b_left e (b_left e &&& (((1 : Int32) <<< (nI f &&& 31)) ^^^ (-1))), upd b_reached e (b_reached e + 1), b_sizes, b_each, b_backRow, b_backPc, b_backNode, b_backPosition, b_backSize, b_output))
    (hR : b_each e < 0 → wpY_handle (fun u => match u with | (g_nodes_1, g_inner_1, g_rules_1, g_place_1, g_listed_1, g_depth_1, g_row_1, g_pc_1, g_node_1, g_position_1, g_size_1, g_fault_1, g_put_1, g_steps_1, b_name_1, b_parent_1, b_value_1, b_kind_1, b_with_1, b_count_1, b_bodyAt_1, b_priority_1, b_given_1, b_there_1, b_wanted_1, b_waiting_1, b_within_1, b_list_1, b_left_1, b_reached_1, b_sizes_1, b_each_1, b_backRow_1, b_backPc_1, b_backNode_1, b_backPosition_1, b_backSize_1, b_output_1) => (0 ≤ g_row_1 → wY_nextNode_193 post (nI e) (nI f) g_nodes_1 g_inner_1 g_rules_1 g_place_1 g_listed_1 g_depth_1 g_row_1 g_pc_1 g_node_1 g_position_1 g_size_1 g_fault_1 g_put_1 g_steps_1 b_name_1 b_parent_1 b_value_1 b_kind_1 b_with_1 b_count_1 b_bodyAt_1 b_priority_1 b_given_1 b_there_1 b_wanted_1 b_waiting_1 b_within_1 b_list_1 b_left_1 b_reached_1 b_sizes_1 b_each_1 b_backRow_1 b_backPc_1 b_backNode_1 b_backPosition_1 b_backSize_1 b_output_1) ∧ (¬ 0 ≤ g_row_1 → post (g_nodes_1, g_inner_1, g_rules_1, g_place_1, g_listed_1, g_depth_1, g_row_1, g_pc_1, g_node_1, g_position_1, g_size_1, g_fault_1, g_put_1, g_steps_1, b_name_1, b_parent_1, b_value_1, b_kind_1, b_with_1, b_count_1, b_bodyAt_1, b_priority_1, b_given_1, b_there_1, b_wanted_1, b_waiting_1, b_within_1, b_list_1, b_left_1, b_reached_1, b_sizes_1, b_each_1, b_backRow_1, b_backPc_1, b_backNode_1, b_backPosition_1, b_backSize_1, b_output_1))) (g_nodes, g_inner, g_rules, g_place, g_listed, g_depth, g_row, g_pc, g_node, g_position, g_size, g_fault, g_put, g_steps, b_name, b_parent, b_value, b_kind, b_with, b_count, b_bodyAt, b_priority, b_given, b_there, b_wanted, b_waiting, b_within, b_list, upd b_left e (b_left e &&& (((1 : Int32) <<< (nI f &&& 31)) ^^^ (-1))), upd b_reached e (b_reached e + 1), b_sizes, b_each, b_backRow, b_backPc, b_backNode, b_backPosition, b_backSize, b_output) (nI f)) :
    ∀ d i g, i + d = f → d < g → wY_nextNode_105 post (nI e) g_nodes g_inner g_rules g_place g_listed g_depth g_row g_pc g_node g_position g_size g_fault g_put g_steps b_name b_parent b_value b_kind b_with b_count b_bodyAt b_priority b_given b_there b_wanted b_waiting b_within b_list b_left b_reached b_sizes b_each b_backRow b_backPc b_backNode b_backPosition b_backSize b_output g (nI i) := by
  have ce : (nI e).toNatClampNeg = e := nI_clamp (by omega)
  have ve : vp_in (nI e) 13 := vp_in_nI (by omega) (by omega)
  have f24 := hf.1
  intro d
  induction d with
  | zero =>
    intro i g hi hg
    obtain ⟨g, rfl⟩ : ∃ x, g = x + 1 := ⟨g - 1, by omega⟩
    have e' : i = f := by omega
    subst e'
    refine ⟨ve, ?_⟩
    rw [ce]
    refine br_f (ms_t (by omega) hf.2.1) ⟨ve, ve, nm_e ⟨ve, ve, nm_e ⟨ve, br_c (fun q => hR q) (fun q => ⟨ve, nm_e ⟨ve, nm_e ⟨ve, nm_r (e' := b_reached e + 1) (by rw [ce, pk_us]) ⟨ve, nm_r (e' := b_sizes e) (by rw [ce]) (hB q)⟩⟩⟩⟩)⟩⟩⟩
  | succ d ih =>
    intro i g hi hg
    obtain ⟨g, rfl⟩ : ∃ x, g = x + 1 := ⟨g - 1, by omega⟩
    refine ⟨ve, ?_⟩
    rw [ce]
    exact br_t (ms_f (by omega) (hf.2.2 i (by omega))) (nm_r (nI_1 i) (ih (i + 1) g (by omega) (by omega)))
theorem yt_nextN {post : SY → Prop} {e st f : Nat} (he : e < 12) (h0 : ¬ b_left e = 0) (hst : st < 150) (hf : me_low (b_left e) f)
    (hB : ¬ b_each e < 0 → post (g_nodes, g_inner, g_rules, g_place, g_listed, nI (e + 1), b_backRow e, b_each e, nI f, b_reached e + 1, b_sizes e, g_fault, g_put, nI (st + 1), b_name, b_parent, b_value, b_kind, b_with, b_count, b_bodyAt, b_priority, b_given, b_there, b_wanted, b_waiting, b_within, b_list, upd b_left e (b_left e &&& (((1 : Int32) <<< (nI f &&& 31)) ^^^ (-1))), upd b_reached e (b_reached e + 1), b_sizes, b_each, b_backRow, b_backPc, b_backNode, b_backPosition, b_backSize, b_output))
    (hR : b_each e < 0 → wpY_handle (fun u => match u with | (g_nodes_1, g_inner_1, g_rules_1, g_place_1, g_listed_1, g_depth_1, g_row_1, g_pc_1, g_node_1, g_position_1, g_size_1, g_fault_1, g_put_1, g_steps_1, b_name_1, b_parent_1, b_value_1, b_kind_1, b_with_1, b_count_1, b_bodyAt_1, b_priority_1, b_given_1, b_there_1, b_wanted_1, b_waiting_1, b_within_1, b_list_1, b_left_1, b_reached_1, b_sizes_1, b_each_1, b_backRow_1, b_backPc_1, b_backNode_1, b_backPosition_1, b_backSize_1, b_output_1) => (0 ≤ g_row_1 → wY_nextNode_193 post (nI e) (nI f) g_nodes_1 g_inner_1 g_rules_1 g_place_1 g_listed_1 g_depth_1 g_row_1 g_pc_1 g_node_1 g_position_1 g_size_1 g_fault_1 g_put_1 g_steps_1 b_name_1 b_parent_1 b_value_1 b_kind_1 b_with_1 b_count_1 b_bodyAt_1 b_priority_1 b_given_1 b_there_1 b_wanted_1 b_waiting_1 b_within_1 b_list_1 b_left_1 b_reached_1 b_sizes_1 b_each_1 b_backRow_1 b_backPc_1 b_backNode_1 b_backPosition_1 b_backSize_1 b_output_1) ∧ (¬ 0 ≤ g_row_1 → post (g_nodes_1, g_inner_1, g_rules_1, g_place_1, g_listed_1, g_depth_1, g_row_1, g_pc_1, g_node_1, g_position_1, g_size_1, g_fault_1, g_put_1, g_steps_1, b_name_1, b_parent_1, b_value_1, b_kind_1, b_with_1, b_count_1, b_bodyAt_1, b_priority_1, b_given_1, b_there_1, b_wanted_1, b_waiting_1, b_within_1, b_list_1, b_left_1, b_reached_1, b_sizes_1, b_each_1, b_backRow_1, b_backPc_1, b_backNode_1, b_backPosition_1, b_backSize_1, b_output_1))) (g_nodes, g_inner, g_rules, g_place, g_listed, nI (e + 1), g_row, g_pc, g_node, g_position, g_size, g_fault, g_put, nI (st + 1), b_name, b_parent, b_value, b_kind, b_with, b_count, b_bodyAt, b_priority, b_given, b_there, b_wanted, b_waiting, b_within, b_list, upd b_left e (b_left e &&& (((1 : Int32) <<< (nI f &&& 31)) ^^^ (-1))), upd b_reached e (b_reached e + 1), b_sizes, b_each, b_backRow, b_backPc, b_backNode, b_backPosition, b_backSize, b_output) (nI f)) :
    wpY_nextNode post (g_nodes, g_inner, g_rules, g_place, g_listed, nI (e + 1), g_row, g_pc, g_node, g_position, g_size, g_fault, g_put, nI st, b_name, b_parent, b_value, b_kind, b_with, b_count, b_bodyAt, b_priority, b_given, b_there, b_wanted, b_waiting, b_within, b_list, b_left, b_reached, b_sizes, b_each, b_backRow, b_backPc, b_backNode, b_backPosition, b_backSize, b_output) := by
  have ce : (nI e).toNatClampNeg = e := nI_clamp (by omega)
  have ve : vp_in (nI e) 13 := vp_in_nI (by omega) (by omega)
  have f24 := hf.1
  refine nm_r (nI_pred e) ⟨ve, ?_⟩
  rw [ce]
  refine br_f h0 (br_f (fun z => ?_) (nm_r (nI_1 st) ⟨f + 1, yt_105 he hf hB hR f 0 (f + 1) (by omega) (by omega)⟩))
  have := (nI_eq (b := 150) (by omega) (by omega)).mp z
  omega
end
end
section
/-! transform: handling and executing, each side -/
section
variable {g_nodes g_inner g_rules g_place g_listed g_depth g_row g_pc g_node g_position g_size g_fault g_put g_steps : Int32} {b_name b_parent b_value b_kind b_with b_count b_bodyAt b_priority b_given b_there b_wanted b_waiting b_within b_list b_left b_reached b_sizes b_each b_backRow b_backPc b_backNode b_backPosition b_backSize b_output : Nat → Int32}
theorem yt_36 {post : SY → Prop} {n p : Nat} {ch : Int32} (hn : n ≤ 24) (hp24 : p < 24) (hch : ∀ i, i < 32 → bt ch i = (decide (i < n) && decide (b_parent i = nI p)))
    (h0 : ch = 0 → wpY_emit post (nI n, g_inner, g_rules, g_place, g_listed, g_depth, g_row, g_pc, g_node, g_position, g_size, g_fault, g_put, g_steps, b_name, b_parent, b_value, b_kind, b_with, b_count, b_bodyAt, b_priority, b_given, b_there, b_wanted, b_waiting, b_within, b_list, b_left, b_reached, b_sizes, b_each, b_backRow, b_backPc, b_backNode, b_backPosition, b_backSize, b_output) (b_value p)) (h1 : ¬ ch = 0 → wpY_begin post (nI n, g_inner, g_rules, g_place, g_listed, g_depth, g_row, g_pc, g_node, g_position, g_size, g_fault, g_put, g_steps, b_name, b_parent, b_value, b_kind, b_with, b_count, b_bodyAt, b_priority, b_given, b_there, b_wanted, b_waiting, b_within, b_list, b_left, b_reached, b_sizes, b_each, b_backRow, b_backPc, b_backNode, b_backPosition, b_backSize, b_output) ch (-1)) :
    ∀ d m f x, m + d = n → d < f → (∀ i, i < 32 → bt x i = (decide (i < m) && decide (b_parent i = nI p))) → wY_handle_36 post (nI p) (nI n) g_inner g_rules g_place g_listed g_depth g_row g_pc g_node g_position g_size g_fault g_put g_steps b_name b_parent b_value b_kind b_with b_count b_bodyAt b_priority b_given b_there b_wanted b_waiting b_within b_list b_left b_reached b_sizes b_each b_backRow b_backPc b_backNode b_backPosition b_backSize b_output f x (nI m) := by
  intro d
  induction d with
  | zero =>
    intro m f x hm hf hx
    obtain ⟨f, rfl⟩ : ∃ x, f = x + 1 := ⟨f - 1, by omega⟩
    have e : m = n := by omega
    subst e
    have ex : x = ch := b_ext fun i hi => by rw [hx i hi, hch i hi]
    subst ex
    refine br_t (nI_le (Nat.le_refl _) (by omega)) (br_c (fun q => ⟨vp_in_nI hp24 (by omega), ?_⟩) (fun q => h1 q))
    rw [nI_clamp (by omega)]
    exact h0 q
  | succ d ih =>
    intro m f x hm hf hx
    obtain ⟨f, rfl⟩ : ∃ x, f = x + 1 := ⟨f - 1, by omega⟩
    refine br_f (nI_ge (by omega) (by omega)) ⟨vp_in_nI (by omega) (by omega), ?_⟩
    rw [nI_clamp (by omega)]
    refine br_c (fun q => nm_e (nm_r (nI_1 m) (ih (m + 1) f _ (by omega) (by omega) fun i hi => ?_))) (fun q => nm_r (nI_1 m) (ih (m + 1) f x (by omega) (by omega) fun i hi => ?_))
    · rw [ms_set x (by omega) hi, hx i hi]
      by_cases z : i = m
      · rw [z, q, decide_eq_true rfl, decide_eq_true rfl, decide_eq_true (show m < m + 1 by omega), Bool.or_true]; rfl
      · rw [decide_eq_false z, Bool.or_false]
        by_cases y : i < m
        · rw [decide_eq_true y, decide_eq_true (show i < m + 1 by omega)]
        · rw [decide_eq_false y, decide_eq_false (show ¬ i < m + 1 by omega)]
    · rw [hx i hi]
      by_cases z : i = m
      · rw [z, decide_eq_false q, Bool.and_false, Bool.and_false]
      · by_cases y : i < m
        · rw [decide_eq_true y, decide_eq_true (show i < m + 1 by omega)]
        · rw [decide_eq_false y, decide_eq_false (show ¬ i < m + 1 by omega)]
theorem yt_endOf {post : Int32 → Prop} {K : Nat → Nat} {O : Nat → Int32} {len y c : Nat} (W : gm_W K len) (hy : y + 30 ≤ 210) (hk : ys_k b_kind b_with y K O len) (hc : c < len) (ho : K c = 21 ∨ K c = 24 ∨ K c = 25) (o1 : gm_od K (gm_e K c) = gm_od K c) (o2 : ∀ x, c < x → x < gm_e K c → gm_od K c + 1 ≤ gm_od K x) (hp : post (nI (y + (gm_e K c - 1)))) : wpY_endOf post (g_nodes, g_inner, g_rules, g_place, g_listed, g_depth, g_row, g_pc, g_node, g_position, g_size, g_fault, g_put, g_steps, b_name, b_parent, b_value, b_kind, b_with, b_count, b_bodyAt, b_priority, b_given, b_there, b_wanted, b_waiting, b_within, b_list, b_left, b_reached, b_sizes, b_each, b_backRow, b_backPc, b_backNode, b_backPosition, b_backSize, b_output) (nI (y + c)) := by
  have hl := W.1
  have hel := (W.2.2 c hc).2.1
  have hlt := (W.2.2 c hc).1
  have key : ∀ (s i f q : Nat), i + s + 1 = gm_e K c → s < f → c ≤ i → (q : Int) = gm_od K (i + 1) - gm_od K c → q ≤ i + 1 → wY_endOf_4 post g_nodes g_inner g_rules g_place g_listed g_depth g_row g_pc g_node g_position g_size g_fault g_put g_steps b_name b_parent b_value b_kind b_with b_count b_bodyAt b_priority b_given b_there b_wanted b_waiting b_within b_list b_left b_reached b_sizes b_each b_backRow b_backPc b_backNode b_backPosition b_backSize b_output f (nI q) (nI (y + i)) := by
    intro s
    induction s with
    | zero =>
      intro i f q hi hf hci hq q100
      obtain ⟨f, rfl⟩ : ∃ x, f = x + 1 := ⟨f - 1, by omega⟩
      have e : i = gm_e K c - 1 := by omega
      have q0 : q = 0 := by
        have : i + 1 = gm_e K c := by omega
        rw [this, o1] at hq
        omega
      subst q0
      rw [e]
      exact br_t (by decide) hp
    | succ s ih =>
      intro i f q hi hf hci hq q100
      obtain ⟨f, rfl⟩ : ∃ x, f = x + 1 := ⟨f - 1, by omega⟩
      have g := o2 (i + 1) (by omega) (by omega)
      have il : i + 1 < len := by omega
      have k27 := gm_k26 W (i + 1)
      refine br_f (nI_nle (by omega) (by omega)) (nm_r (e' := nI (y + (i + 1))) (by rw [nI_1, Nat.add_assoc]) ⟨vp_in_nI (by omega) (by omega), nm_r (e' := nI (K (i + 1))) (by rw [nI_clamp (by omega)]; exact (hk (i + 1) il).1) ?_⟩)
      have op : (K (i + 1) = 21 ∨ K (i + 1) = 24 ∨ K (i + 1) = 25) → wY_endOf_40 post (wY_endOf_4 post g_nodes g_inner g_rules g_place g_listed g_depth g_row g_pc g_node g_position g_size g_fault g_put g_steps b_name b_parent b_value b_kind b_with b_count b_bodyAt b_priority b_given b_there b_wanted b_waiting b_within b_list b_left b_reached b_sizes b_each b_backRow b_backPc b_backNode b_backPosition b_backSize b_output f) (nI q) (nI (y + (i + 1))) (nI (K (i + 1))) g_nodes g_inner g_rules g_place g_listed g_depth g_row g_pc g_node g_position g_size g_fault g_put g_steps b_name b_parent b_value b_kind b_with b_count b_bodyAt b_priority b_given b_there b_wanted b_waiting b_within b_list b_left b_reached b_sizes b_each b_backRow b_backPc b_backNode b_backPosition b_backSize b_output := fun h => by
        have d := gm_od_o h
        refine nm_r (nI_1 q) (br_f (fun z => ?_) (ih (i + 1) f (q + 1) (by omega) (by omega) (by omega) (by omega) (by omega)))
        have := (yw_knk W (k := 26) (by omega)).mp z
        omega
      refine pk_eq (K (i + 1)) 21 (fun z => op (Or.inl z)) (fun z1 => pk_eq (K (i + 1)) 24 (fun z => op (Or.inr (Or.inl z))) (fun z2 => pk_eq (K (i + 1)) 25 (fun z => op (Or.inr (Or.inr z))) (fun z3 => pk_eq (K (i + 1)) 26 (fun z => ?_) (fun z => ?_))))
      · have d := gm_od_e z
        obtain ⟨q', rfl⟩ : ∃ x, q = x + 1 := ⟨q - 1, by omega⟩
        exact nm_r (pk_m1 q') (ih (i + 1) f q' (by omega) (by omega) (by omega) (by omega) (by omega))
      · have d := gm_od_n (K := K) (i := i + 1) (by omega) z
        exact ih (i + 1) f q (by omega) (by omega) (by omega) (by omega) (by omega)
  have bnd : gm_od K (c + 1) = gm_od K c + 1 := gm_od_o ho
  refine ⟨gm_e K c + 1, ?_⟩
  exact key (gm_e K c - c - 1) c _ 1 (by omega) (by omega) (Nat.le_refl _) (by omega) (by omega)
theorem yt_opener {post : Int32 → Prop} {K : Nat → Nat} {O : Nat → Int32} {len y o c : Nat} (W : gm_W K len) (hy : y + 30 ≤ 210) (hk : ys_k b_kind b_with y K O len) (hc : c < len) (hoc : o < c) (k26 : K c = 26) (eo : gm_e K o = c + 1) (o1 : gm_od K (gm_e K o) = gm_od K o) (o2 : ∀ x, o < x → x < gm_e K o → gm_od K o + 1 ≤ gm_od K x) (hp : post (nI (K o))) : wpY_opener post (g_nodes, g_inner, g_rules, g_place, g_listed, g_depth, g_row, g_pc, g_node, g_position, g_size, g_fault, g_put, g_steps, b_name, b_parent, b_value, b_kind, b_with, b_count, b_bodyAt, b_priority, b_given, b_there, b_wanted, b_waiting, b_within, b_list, b_left, b_reached, b_sizes, b_each, b_backRow, b_backPc, b_backNode, b_backPosition, b_backSize, b_output) (nI (y + c)) := by
  have hl := W.1
  have key : ∀ (s i f q : Nat), i = o + s → i ≤ c → s < f → (q : Int) = gm_od K i - gm_od K o → q + i < 100 → wY_opener_4 post g_nodes g_inner g_rules g_place g_listed g_depth g_row g_pc g_node g_position g_size g_fault g_put g_steps b_name b_parent b_value b_kind b_with b_count b_bodyAt b_priority b_given b_there b_wanted b_waiting b_within b_list b_left b_reached b_sizes b_each b_backRow b_backPc b_backNode b_backPosition b_backSize b_output f (nI q) (nI (y + i)) := by
    intro s
    induction s with
    | zero =>
      intro i f q hi hic hf hq _
      obtain ⟨f, rfl⟩ : ∃ x, f = x + 1 := ⟨f - 1, by omega⟩
      have e : i = o := by omega
      subst e
      have q0 : q = 0 := by omega
      subst q0
      refine br_t (by decide) ⟨vp_in_nI (by omega) (by omega), ?_⟩
      rw [nI_clamp (by omega), (hk i (by omega)).1]
      exact hp
    | succ s ih =>
      intro i f q hi hic hf hq q100
      obtain ⟨f, rfl⟩ : ∃ x, f = x + 1 := ⟨f - 1, by omega⟩
      have g := o2 i (by omega) (by omega)
      obtain ⟨j, rfl⟩ : ∃ j, i = j + 1 := ⟨i - 1, by omega⟩
      have jl : j < len := by omega
      have k27 := gm_k26 W j
      refine br_f (nI_nle (by omega) (by omega)) (nm_r (e' := nI (y + j)) (by rw [← Nat.add_assoc]; exact pk_m1 _) ⟨vp_in_nI (by omega) (by omega), nm_r (e' := nI (K j)) (by rw [nI_clamp (by omega)]; exact (hk j jl).1) ?_⟩)
      obtain ⟨q', rfl⟩ : ∃ x, q = x + 1 := ⟨q - 1, by omega⟩
      have op : (K j = 21 ∨ K j = 24 ∨ K j = 25) → wY_opener_40 post (wY_opener_4 post g_nodes g_inner g_rules g_place g_listed g_depth g_row g_pc g_node g_position g_size g_fault g_put g_steps b_name b_parent b_value b_kind b_with b_count b_bodyAt b_priority b_given b_there b_wanted b_waiting b_within b_list b_left b_reached b_sizes b_each b_backRow b_backPc b_backNode b_backPosition b_backSize b_output f) (nI (q' + 1)) (nI (y + j)) (nI (K j)) g_nodes g_inner g_rules g_place g_listed g_depth g_row g_pc g_node g_position g_size g_fault g_put g_steps b_name b_parent b_value b_kind b_with b_count b_bodyAt b_priority b_given b_there b_wanted b_waiting b_within b_list b_left b_reached b_sizes b_each b_backRow b_backPc b_backNode b_backPosition b_backSize b_output := fun h => by
        have d := gm_od_o h
        refine nm_r (pk_m1 q') (br_f (fun z => ?_) (ih j f q' (by omega) (by omega) (by omega) (by omega) (by omega)))
        have := (yw_knk W (k := 26) (by omega)).mp z
        omega
      refine pk_eq (K j) 21 (fun z => op (Or.inl z)) (fun z1 => pk_eq (K j) 24 (fun z => op (Or.inr (Or.inl z))) (fun z2 => pk_eq (K j) 25 (fun z => op (Or.inr (Or.inr z))) (fun z3 => pk_eq (K j) 26 (fun z => ?_) (fun z => ?_))))
      · have d := gm_od_e z
        exact nm_r (nI_1 (q' + 1)) (ih j f (q' + 2) (by omega) (by omega) (by omega) (by omega) (by omega))
      · have d := gm_od_n (K := K) (i := j) (by omega) z
        exact ih j f (q' + 1) (by omega) (by omega) (by omega) (by omega) (by omega)
  have d := gm_od_e k26
  rw [eo] at o1
  refine ⟨c + 1, key (c - o) c _ 1 (by omega) (Nat.le_refl _) (by omega) (by omega) (by omega)⟩
end
theorem gm_opp {K : Nat → Nat} {len c : Nat} (W : gm_W K len) (hc : c < len) (h : K c = 21 ∨ K c = 24 ∨ K c = 25) : gm_od K (gm_e K c) = gm_od K c ∧ (∀ x, c < x → x < gm_e K c → gm_od K c + 1 ≤ gm_od K x) ∧ gm_bp K len (gm_e K c) ∧ K (gm_e K c - 1) = 26 := by
  have L := W.2.2 c hc
  rcases h with h | h | h
  · obtain ⟨_, _, p3, _, p5, p6, p7⟩ := L.2.2.2.2.2.2.2.2.2.2.2.2.1 h
    exact ⟨p6, p7, p3, p5⟩
  · obtain ⟨_, _, _, _, p3, _, p5, p6, p7⟩ := L.2.2.2.2.2.2.2.2.2.2.2.2.2.2.2.1 h
    exact ⟨p6, p7, p3, p5⟩
  · obtain ⟨_, _, _, _, p3, _, p5, p6, p7⟩ := L.2.2.2.2.2.2.2.2.2.2.2.2.2.2.2.2.1 h
    exact ⟨p6, p7, p3, p5⟩
section
variable {f_nodeCount f_innermost f_draftLength f_rulesGiven f_wrongToken f_wantedCount f_inCondition f_depth f_cursor f_outcome f_outputCount f_stepsTaken : Int32} {a_names a_values a_parents a_kinds a_operands a_priorities a_givenAt a_wanted a_axes a_passing a_ends a_openers a_table a_results a_matched a_listLeft a_listNode a_listPosition a_listSize a_listBody a_listReturn a_outputs : Nat → Int32}
theorem xt_num {post : SX → Prop} {K : Nat → Nat} {len b c nd e oc : Nat} (ho : oc < 2 ^ 30) (he : e < 12) (W : gm_W K len) (hb : b + 32 ≤ 224) (hk : xs_k a_kinds b K) (hc : c + 1 < len) (k14 : K (c + 1) ≤ 14) (hE : ∀ x, x < len → a_ends (b + x) = nI (b + gm_e K x)) (hn : nd < 24) (hnd : a_listNode e = nI nd)
    (hp : ∀ res, (K c = 22 → post (f_nodeCount, f_innermost, f_draftLength, f_rulesGiven, f_wrongToken, f_wantedCount, f_inCondition, nI (e + 1), nI (b + gm_e K c), f_outcome, nI (oc + 1), f_stepsTaken, a_names, a_values, a_parents, a_kinds, a_operands, a_priorities, a_givenAt, a_wanted, a_axes, a_passing, a_ends, a_openers, a_table, res, a_matched, a_listLeft, a_listNode, a_listPosition, a_listSize, a_listBody, a_listReturn, tf_o a_outputs oc (nu_n K (fun x => a_operands (b + x)) a_values (fun x a => a_table ((b + x) * 24 + a)) nd (a_listPosition e) (a_listSize e) (c + 1)))) ∧
      (K c ≠ 22 → nu_n K (fun x => a_operands (b + x)) a_values (fun x a => a_table ((b + x) * 24 + a)) nd (a_listPosition e) (a_listSize e) (c + 1) = 0 → post (f_nodeCount, f_innermost, f_draftLength, f_rulesGiven, f_wrongToken, f_wantedCount, f_inCondition, nI (e + 1), nI (b + gm_e K c), f_outcome, nI oc, f_stepsTaken, a_names, a_values, a_parents, a_kinds, a_operands, a_priorities, a_givenAt, a_wanted, a_axes, a_passing, a_ends, a_openers, a_table, res, a_matched, a_listLeft, a_listNode, a_listPosition, a_listSize, a_listBody, a_listReturn, a_outputs)) ∧
      (K c ≠ 22 → ¬ nu_n K (fun x => a_operands (b + x)) a_values (fun x a => a_table ((b + x) * 24 + a)) nd (a_listPosition e) (a_listSize e) (c + 1) = 0 → post (f_nodeCount, f_innermost, f_draftLength, f_rulesGiven, f_wrongToken, f_wantedCount, f_inCondition, nI (e + 1), nI (b + gm_e K (c + 1)), f_outcome, nI oc, f_stepsTaken, a_names, a_values, a_parents, a_kinds, a_operands, a_priorities, a_givenAt, a_wanted, a_axes, a_passing, a_ends, a_openers, a_table, res, a_matched, a_listLeft, a_listNode, a_listPosition, a_listSize, a_listBody, a_listReturn, a_outputs))) :
    wpX_executeNumber post (f_nodeCount, f_innermost, f_draftLength, f_rulesGiven, f_wrongToken, f_wantedCount, f_inCondition, nI (e + 1), f_cursor, f_outcome, nI oc, f_stepsTaken, a_names, a_values, a_parents, a_kinds, a_operands, a_priorities, a_givenAt, a_wanted, a_axes, a_passing, a_ends, a_openers, a_table, a_results, a_matched, a_listLeft, a_listNode, a_listPosition, a_listSize, a_listBody, a_listReturn, a_outputs) (nI (b + c)) := by
  have hl := W.1
  have ce : (nI e).toNatClampNeg = e := nI_clamp (by omega)
  have ve : vp_in (nI e) 12 := vp_in_nI he (by omega)
  have vc : vp_in (nI (b + c)) 224 := vp_in_nI (by omega) (by omega)
  have cc : (nI (b + c)).toNatClampNeg = b + c := nI_clamp (by omega)
  have e1 : nI (b + c) + 1 = nI (b + (c + 1)) := by rw [nI_1, Nat.add_assoc]
  have c1 : (nI (b + (c + 1))).toNatClampNeg = b + (c + 1) := nI_clamp (by omega)
  have v1 : vp_in (nI (b + (c + 1))) 224 := vp_in_nI (by omega) (by omega)
  refine nm_r (nI_pred e) ⟨ve, ve, ve, ?_⟩
  rw [ce, hnd, e1, c1, cc]
  refine xw_numberAt W hb hk hc k14 (fun x _ x2 => hE x (by have := (W.2.2 (c + 1) hc).2.1; omega)) hn fun res => ⟨vc, ?_⟩
  obtain ⟨p1, p2, p3⟩ := hp res
  rw [hk c (by omega), hE c (by omega), hE (c + 1) hc]
  refine br_c (fun q => ?_) (fun q => ?_)
  · have q22 := (yw_knk W (k := 22) (by omega)).mp q
    exact xt_put ho ⟨vc, nm_r (e' := nI (b + gm_e K c)) (hE c (by omega)) (p1 q22)⟩
  · have q22 : K c ≠ 22 := fun z => q (by rw [z]; rfl)
    exact br_c (fun z => ⟨vc, nm_e (p2 q22 z)⟩) (fun z => ⟨v1, nm_e (p3 q22 z)⟩)
end
end
section
/-! transform: a token executed, each side -/
section
variable {f_nodeCount f_innermost f_draftLength f_rulesGiven f_wrongToken f_wantedCount f_inCondition f_depth f_cursor f_outcome f_outputCount f_stepsTaken : Int32} {a_names a_values a_parents a_kinds a_operands a_priorities a_givenAt a_wanted a_axes a_passing a_ends a_openers a_table a_results a_matched a_listLeft a_listNode a_listPosition a_listSize a_listBody a_listReturn a_outputs : Nat → Int32}
theorem xe_A {post : SX → Prop} {e q : Nat} (he : e < 12) (hq : q < 224) (hk : a_kinds q = nI 27) (hp : wpX_advance (fun u => match u with | (f_nodeCount_1, f_innermost_1, f_draftLength_1, f_rulesGiven_1, f_wrongToken_1, f_wantedCount_1, f_inCondition_1, f_depth_1, f_cursor_1, f_outcome_1, f_outputCount_1, f_stepsTaken_1, a_names_1, a_values_1, a_parents_1, a_kinds_1, a_operands_1, a_priorities_1, a_givenAt_1, a_wanted_1, a_axes_1, a_passing_1, a_ends_1, a_openers_1, a_table_1, a_results_1, a_matched_1, a_listLeft_1, a_listNode_1, a_listPosition_1, a_listSize_1, a_listBody_1, a_listReturn_1, a_outputs_1) => post (f_nodeCount_1, f_innermost_1, f_draftLength_1, f_rulesGiven_1, f_wrongToken_1, f_wantedCount_1, f_inCondition_1, f_depth_1, f_cursor_1, f_outcome_1, f_outputCount_1, f_stepsTaken_1, a_names_1, a_values_1, a_parents_1, a_kinds_1, a_operands_1, a_priorities_1, a_givenAt_1, a_wanted_1, a_axes_1, a_passing_1, a_ends_1, a_openers_1, a_table_1, a_results_1, a_matched_1, a_listLeft_1, a_listNode_1, a_listPosition_1, a_listSize_1, a_listBody_1, a_listReturn_1, a_outputs_1)) (f_nodeCount, f_innermost, f_draftLength, f_rulesGiven, f_wrongToken, f_wantedCount, f_inCondition, nI (e + 1), nI q, f_outcome, f_outputCount, f_stepsTaken, a_names, a_values, a_parents, a_kinds, a_operands, a_priorities, a_givenAt, a_wanted, a_axes, a_passing, a_ends, a_openers, a_table, a_results, a_matched, a_listLeft, a_listNode, a_listPosition, a_listSize, a_listBody, a_listReturn, a_outputs)) : wpX_execute post (f_nodeCount, f_innermost, f_draftLength, f_rulesGiven, f_wrongToken, f_wantedCount, f_inCondition, nI (e + 1), nI q, f_outcome, f_outputCount, f_stepsTaken, a_names, a_values, a_parents, a_kinds, a_operands, a_priorities, a_givenAt, a_wanted, a_axes, a_passing, a_ends, a_openers, a_table, a_results, a_matched, a_listLeft, a_listNode, a_listPosition, a_listSize, a_listBody, a_listReturn, a_outputs) :=
  ⟨by rw [nI_pred]; exact vp_in_nI he (by omega), nm_r (e' := a_listNode e) (by rw [nI_pred, nI_clamp (by omega)]) ⟨vp_in_nI hq (by omega), nm_r (e' := nI 27) (by rw [nI_clamp (by omega)]; exact hk) (br_f (by decide) (br_t (by decide) hp))⟩⟩
theorem xe_20 {post : SX → Prop} {e q oc : Nat} (he : e < 12) (hq : q + 1 < 224) (ho : oc < 2 ^ 30) (hk : a_kinds q = nI 20) (hp : post (f_nodeCount, f_innermost, f_draftLength, f_rulesGiven, f_wrongToken, f_wantedCount, f_inCondition, nI (e + 1), nI (q + 1), f_outcome, nI (oc + 1), f_stepsTaken, a_names, a_values, a_parents, a_kinds, a_operands, a_priorities, a_givenAt, a_wanted, a_axes, a_passing, a_ends, a_openers, a_table, a_results, a_matched, a_listLeft, a_listNode, a_listPosition, a_listSize, a_listBody, a_listReturn, tf_o a_outputs oc (a_operands q))) : wpX_execute post (f_nodeCount, f_innermost, f_draftLength, f_rulesGiven, f_wrongToken, f_wantedCount, f_inCondition, nI (e + 1), nI q, f_outcome, nI oc, f_stepsTaken, a_names, a_values, a_parents, a_kinds, a_operands, a_priorities, a_givenAt, a_wanted, a_axes, a_passing, a_ends, a_openers, a_table, a_results, a_matched, a_listLeft, a_listNode, a_listPosition, a_listSize, a_listBody, a_listReturn, a_outputs) := by
  refine ⟨by rw [nI_pred]; exact vp_in_nI he (by omega), nm_r (e' := a_listNode e) (by rw [nI_pred, nI_clamp (by omega)]) ⟨vp_in_nI (by omega) (by omega), nm_r (e' := nI 20) (by rw [nI_clamp (by omega)]; exact hk) ?_⟩⟩
  rw [nI_clamp (show q < 2 ^ 31 by omega)]
  exact br_f (by decide) (br_f (by decide) (br_t (by decide) (⟨vp_in_nI (by omega) (by omega), xt_put ho (nm_r (nI_1 q) hp)⟩)))
theorem xe_21 {post : SX → Prop} {e q oc : Nat} (he : e < 12) (hq : q + 1 < 224) (ho : oc < 2 ^ 30) (hk : a_kinds q = nI 21) (hp : post (f_nodeCount, f_innermost, f_draftLength, f_rulesGiven, f_wrongToken, f_wantedCount, f_inCondition, nI (e + 1), nI (q + 1), f_outcome, nI (oc + 1), f_stepsTaken, a_names, a_values, a_parents, a_kinds, a_operands, a_priorities, a_givenAt, a_wanted, a_axes, a_passing, a_ends, a_openers, a_table, a_results, a_matched, a_listLeft, a_listNode, a_listPosition, a_listSize, a_listBody, a_listReturn, tf_o a_outputs oc (1000000 + a_operands q))) : wpX_execute post (f_nodeCount, f_innermost, f_draftLength, f_rulesGiven, f_wrongToken, f_wantedCount, f_inCondition, nI (e + 1), nI q, f_outcome, nI oc, f_stepsTaken, a_names, a_values, a_parents, a_kinds, a_operands, a_priorities, a_givenAt, a_wanted, a_axes, a_passing, a_ends, a_openers, a_table, a_results, a_matched, a_listLeft, a_listNode, a_listPosition, a_listSize, a_listBody, a_listReturn, a_outputs) := by
  refine ⟨by rw [nI_pred]; exact vp_in_nI he (by omega), nm_r (e' := a_listNode e) (by rw [nI_pred, nI_clamp (by omega)]) ⟨vp_in_nI (by omega) (by omega), nm_r (e' := nI 21) (by rw [nI_clamp (by omega)]; exact hk) ?_⟩⟩
  rw [nI_clamp (show q < 2 ^ 31 by omega)]
  exact br_f (by decide) (br_f (by decide) (br_f (by decide) (br_t (by decide) (⟨vp_in_nI (by omega) (by omega), xt_put ho (nm_r (nI_1 q) hp)⟩))))
theorem xe_22 {post : SX → Prop} {e q : Nat} (he : e < 12) (hq : q < 224) (hk : a_kinds q = nI 22) (hp : wpX_executeNumber (fun u => match u with | (f_nodeCount_1, f_innermost_1, f_draftLength_1, f_rulesGiven_1, f_wrongToken_1, f_wantedCount_1, f_inCondition_1, f_depth_1, f_cursor_1, f_outcome_1, f_outputCount_1, f_stepsTaken_1, a_names_1, a_values_1, a_parents_1, a_kinds_1, a_operands_1, a_priorities_1, a_givenAt_1, a_wanted_1, a_axes_1, a_passing_1, a_ends_1, a_openers_1, a_table_1, a_results_1, a_matched_1, a_listLeft_1, a_listNode_1, a_listPosition_1, a_listSize_1, a_listBody_1, a_listReturn_1, a_outputs_1) => post (f_nodeCount_1, f_innermost_1, f_draftLength_1, f_rulesGiven_1, f_wrongToken_1, f_wantedCount_1, f_inCondition_1, f_depth_1, f_cursor_1, f_outcome_1, f_outputCount_1, f_stepsTaken_1, a_names_1, a_values_1, a_parents_1, a_kinds_1, a_operands_1, a_priorities_1, a_givenAt_1, a_wanted_1, a_axes_1, a_passing_1, a_ends_1, a_openers_1, a_table_1, a_results_1, a_matched_1, a_listLeft_1, a_listNode_1, a_listPosition_1, a_listSize_1, a_listBody_1, a_listReturn_1, a_outputs_1)) (f_nodeCount, f_innermost, f_draftLength, f_rulesGiven, f_wrongToken, f_wantedCount, f_inCondition, nI (e + 1), nI q, f_outcome, f_outputCount, f_stepsTaken, a_names, a_values, a_parents, a_kinds, a_operands, a_priorities, a_givenAt, a_wanted, a_axes, a_passing, a_ends, a_openers, a_table, a_results, a_matched, a_listLeft, a_listNode, a_listPosition, a_listSize, a_listBody, a_listReturn, a_outputs) (nI q)) : wpX_execute post (f_nodeCount, f_innermost, f_draftLength, f_rulesGiven, f_wrongToken, f_wantedCount, f_inCondition, nI (e + 1), nI q, f_outcome, f_outputCount, f_stepsTaken, a_names, a_values, a_parents, a_kinds, a_operands, a_priorities, a_givenAt, a_wanted, a_axes, a_passing, a_ends, a_openers, a_table, a_results, a_matched, a_listLeft, a_listNode, a_listPosition, a_listSize, a_listBody, a_listReturn, a_outputs) := by
  refine ⟨by rw [nI_pred]; exact vp_in_nI he (by omega), nm_r (e' := a_listNode e) (by rw [nI_pred, nI_clamp (by omega)]) ⟨vp_in_nI (by omega) (by omega), nm_r (e' := nI 22) (by rw [nI_clamp (by omega)]; exact hk) ?_⟩⟩
  exact br_f (by decide) (br_f (by decide) (br_f (by decide) (br_f (by decide) (br_t (by decide) (hp)))))
theorem xe_24 {post : SX → Prop} {e q : Nat} (he : e < 12) (hq : q < 224) (hk : a_kinds q = nI 24) (hp : wpX_executeNumber (fun u => match u with | (f_nodeCount_1, f_innermost_1, f_draftLength_1, f_rulesGiven_1, f_wrongToken_1, f_wantedCount_1, f_inCondition_1, f_depth_1, f_cursor_1, f_outcome_1, f_outputCount_1, f_stepsTaken_1, a_names_1, a_values_1, a_parents_1, a_kinds_1, a_operands_1, a_priorities_1, a_givenAt_1, a_wanted_1, a_axes_1, a_passing_1, a_ends_1, a_openers_1, a_table_1, a_results_1, a_matched_1, a_listLeft_1, a_listNode_1, a_listPosition_1, a_listSize_1, a_listBody_1, a_listReturn_1, a_outputs_1) => post (f_nodeCount_1, f_innermost_1, f_draftLength_1, f_rulesGiven_1, f_wrongToken_1, f_wantedCount_1, f_inCondition_1, f_depth_1, f_cursor_1, f_outcome_1, f_outputCount_1, f_stepsTaken_1, a_names_1, a_values_1, a_parents_1, a_kinds_1, a_operands_1, a_priorities_1, a_givenAt_1, a_wanted_1, a_axes_1, a_passing_1, a_ends_1, a_openers_1, a_table_1, a_results_1, a_matched_1, a_listLeft_1, a_listNode_1, a_listPosition_1, a_listSize_1, a_listBody_1, a_listReturn_1, a_outputs_1)) (f_nodeCount, f_innermost, f_draftLength, f_rulesGiven, f_wrongToken, f_wantedCount, f_inCondition, nI (e + 1), nI q, f_outcome, f_outputCount, f_stepsTaken, a_names, a_values, a_parents, a_kinds, a_operands, a_priorities, a_givenAt, a_wanted, a_axes, a_passing, a_ends, a_openers, a_table, a_results, a_matched, a_listLeft, a_listNode, a_listPosition, a_listSize, a_listBody, a_listReturn, a_outputs) (nI q)) : wpX_execute post (f_nodeCount, f_innermost, f_draftLength, f_rulesGiven, f_wrongToken, f_wantedCount, f_inCondition, nI (e + 1), nI q, f_outcome, f_outputCount, f_stepsTaken, a_names, a_values, a_parents, a_kinds, a_operands, a_priorities, a_givenAt, a_wanted, a_axes, a_passing, a_ends, a_openers, a_table, a_results, a_matched, a_listLeft, a_listNode, a_listPosition, a_listSize, a_listBody, a_listReturn, a_outputs) := by
  refine ⟨by rw [nI_pred]; exact vp_in_nI he (by omega), nm_r (e' := a_listNode e) (by rw [nI_pred, nI_clamp (by omega)]) ⟨vp_in_nI (by omega) (by omega), nm_r (e' := nI 24) (by rw [nI_clamp (by omega)]; exact hk) ?_⟩⟩
  exact br_f (by decide) (br_f (by decide) (br_f (by decide) (br_f (by decide) (br_f (by decide) (br_f (by decide) (br_t (by decide) (hp)))))))
theorem xe_23 {post : SX → Prop} {e q nd : Nat} (he : e < 12) (hq : q + 1 < 224) (hn : nd < 24) (hnd : a_listNode e = nI nd) (hk : a_kinds q = nI 23) (hp : wpX_beginList (fun u => match u with | (f_nodeCount_1, f_innermost_1, f_draftLength_1, f_rulesGiven_1, f_wrongToken_1, f_wantedCount_1, f_inCondition_1, f_depth_1, f_cursor_1, f_outcome_1, f_outputCount_1, f_stepsTaken_1, a_names_1, a_values_1, a_parents_1, a_kinds_1, a_operands_1, a_priorities_1, a_givenAt_1, a_wanted_1, a_axes_1, a_passing_1, a_ends_1, a_openers_1, a_table_1, a_results_1, a_matched_1, a_listLeft_1, a_listNode_1, a_listPosition_1, a_listSize_1, a_listBody_1, a_listReturn_1, a_outputs_1) => post (f_nodeCount_1, f_innermost_1, f_draftLength_1, f_rulesGiven_1, f_wrongToken_1, f_wantedCount_1, f_inCondition_1, f_depth_1, f_cursor_1, f_outcome_1, f_outputCount_1, f_stepsTaken_1, a_names_1, a_values_1, a_parents_1, a_kinds_1, a_operands_1, a_priorities_1, a_givenAt_1, a_wanted_1, a_axes_1, a_passing_1, a_ends_1, a_openers_1, a_table_1, a_results_1, a_matched_1, a_listLeft_1, a_listNode_1, a_listPosition_1, a_listSize_1, a_listBody_1, a_listReturn_1, a_outputs_1)) (f_nodeCount, f_innermost, f_draftLength, f_rulesGiven, f_wrongToken, f_wantedCount, f_inCondition, nI (e + 1), nI q, f_outcome, f_outputCount, f_stepsTaken, a_names, a_values, a_parents, a_kinds, a_operands, a_priorities, a_givenAt, a_wanted, a_axes, a_passing, a_ends, a_openers, a_table, a_results, a_matched, a_listLeft, a_listNode, a_listPosition, a_listSize, a_listBody, a_listReturn, a_outputs) (a_table ((q + 1) * 24 + nd)) (-1) (a_ends q)) : wpX_execute post (f_nodeCount, f_innermost, f_draftLength, f_rulesGiven, f_wrongToken, f_wantedCount, f_inCondition, nI (e + 1), nI q, f_outcome, f_outputCount, f_stepsTaken, a_names, a_values, a_parents, a_kinds, a_operands, a_priorities, a_givenAt, a_wanted, a_axes, a_passing, a_ends, a_openers, a_table, a_results, a_matched, a_listLeft, a_listNode, a_listPosition, a_listSize, a_listBody, a_listReturn, a_outputs) := by
  have ix : (nI q + 1) * 24 + nI nd = nI ((q + 1) * 24 + nd) := by rw [nI_1, xw_ix]
  refine ⟨by rw [nI_pred]; exact vp_in_nI he (by omega), nm_r (e' := a_listNode e) (by rw [nI_pred, nI_clamp (by omega)]) ⟨vp_in_nI (by omega) (by omega), nm_r (e' := nI 23) (by rw [nI_clamp (by omega)]; exact hk) ?_⟩⟩
  rw [hnd, ix, nI_clamp (show (q + 1) * 24 + nd < 2 ^ 31 by omega), nI_clamp (show q < 2 ^ 31 by omega)]
  exact br_f (by decide) (br_f (by decide) (br_f (by decide) (br_f (by decide) (br_f (by decide) (br_t (by decide) (⟨vp_in_nI (by omega) (by omega), vp_in_nI (by omega) (by omega), hp⟩))))))
theorem xe_25 {post : SX → Prop} {e q nd : Nat} (he : e < 12) (hq : q + 1 < 224) (hn : nd < 24) (hnd : a_listNode e = nI nd) (hk : a_kinds q = nI 25) (hp : wpX_beginList (fun u => match u with | (f_nodeCount_1, f_innermost_1, f_draftLength_1, f_rulesGiven_1, f_wrongToken_1, f_wantedCount_1, f_inCondition_1, f_depth_1, f_cursor_1, f_outcome_1, f_outputCount_1, f_stepsTaken_1, a_names_1, a_values_1, a_parents_1, a_kinds_1, a_operands_1, a_priorities_1, a_givenAt_1, a_wanted_1, a_axes_1, a_passing_1, a_ends_1, a_openers_1, a_table_1, a_results_1, a_matched_1, a_listLeft_1, a_listNode_1, a_listPosition_1, a_listSize_1, a_listBody_1, a_listReturn_1, a_outputs_1) => post (f_nodeCount_1, f_innermost_1, f_draftLength_1, f_rulesGiven_1, f_wrongToken_1, f_wantedCount_1, f_inCondition_1, f_depth_1, f_cursor_1, f_outcome_1, f_outputCount_1, f_stepsTaken_1, a_names_1, a_values_1, a_parents_1, a_kinds_1, a_operands_1, a_priorities_1, a_givenAt_1, a_wanted_1, a_axes_1, a_passing_1, a_ends_1, a_openers_1, a_table_1, a_results_1, a_matched_1, a_listLeft_1, a_listNode_1, a_listPosition_1, a_listSize_1, a_listBody_1, a_listReturn_1, a_outputs_1)) (f_nodeCount, f_innermost, f_draftLength, f_rulesGiven, f_wrongToken, f_wantedCount, f_inCondition, nI (e + 1), nI q, f_outcome, f_outputCount, f_stepsTaken, a_names, a_values, a_parents, a_kinds, a_operands, a_priorities, a_givenAt, a_wanted, a_axes, a_passing, a_ends, a_openers, a_table, a_results, a_matched, a_listLeft, a_listNode, a_listPosition, a_listSize, a_listBody, a_listReturn, a_outputs) (a_table ((q + 1) * 24 + nd)) (a_ends (q + 1)) (a_ends q)) : wpX_execute post (f_nodeCount, f_innermost, f_draftLength, f_rulesGiven, f_wrongToken, f_wantedCount, f_inCondition, nI (e + 1), nI q, f_outcome, f_outputCount, f_stepsTaken, a_names, a_values, a_parents, a_kinds, a_operands, a_priorities, a_givenAt, a_wanted, a_axes, a_passing, a_ends, a_openers, a_table, a_results, a_matched, a_listLeft, a_listNode, a_listPosition, a_listSize, a_listBody, a_listReturn, a_outputs) := by
  have ix : (nI q + 1) * 24 + nI nd = nI ((q + 1) * 24 + nd) := by rw [nI_1, xw_ix]
  refine ⟨by rw [nI_pred]; exact vp_in_nI he (by omega), nm_r (e' := a_listNode e) (by rw [nI_pred, nI_clamp (by omega)]) ⟨vp_in_nI (by omega) (by omega), nm_r (e' := nI 25) (by rw [nI_clamp (by omega)]; exact hk) ?_⟩⟩
  rw [hnd, ix, nI_clamp (show (q + 1) * 24 + nd < 2 ^ 31 by omega), nI_clamp (show q < 2 ^ 31 by omega), nI_1 q, nI_clamp (show q + 1 < 2 ^ 31 by omega)]
  exact br_f (by decide) (br_f (by decide) (br_f (by decide) (br_f (by decide) (br_f (by decide) (br_f (by decide) (br_f (by decide) (br_t (by decide) (⟨vp_in_nI (by omega) (by omega), vp_in_nI (by omega) (by omega), vp_in_nI (by omega) (by omega), hp⟩))))))))
theorem xe_26 {post : SX → Prop} {e q o ko oc : Nat} (he : e < 12) (hq : q + 1 < 224) (ho : oc < 2 ^ 30) (hk : a_kinds q = nI 26) (hop : a_openers q = nI o) (ho2 : o < 224) (hko : a_kinds o = nI ko) (kc : ko = 21 ∨ ko = 24 ∨ ko = 25)
    (h21 : ko = 21 → post (f_nodeCount, f_innermost, f_draftLength, f_rulesGiven, f_wrongToken, f_wantedCount, f_inCondition, nI (e + 1), nI (q + 1), f_outcome, nI (oc + 1), f_stepsTaken, a_names, a_values, a_parents, a_kinds, a_operands, a_priorities, a_givenAt, a_wanted, a_axes, a_passing, a_ends, a_openers, a_table, a_results, a_matched, a_listLeft, a_listNode, a_listPosition, a_listSize, a_listBody, a_listReturn, tf_o a_outputs oc 2000000)) (h24 : ko = 24 → post (f_nodeCount, f_innermost, f_draftLength, f_rulesGiven, f_wrongToken, f_wantedCount, f_inCondition, nI (e + 1), nI (q + 1), f_outcome, nI oc, f_stepsTaken, a_names, a_values, a_parents, a_kinds, a_operands, a_priorities, a_givenAt, a_wanted, a_axes, a_passing, a_ends, a_openers, a_table, a_results, a_matched, a_listLeft, a_listNode, a_listPosition, a_listSize, a_listBody, a_listReturn, a_outputs)) (h25 : ko = 25 → post (f_nodeCount, f_innermost, f_draftLength, f_rulesGiven, f_wrongToken, f_wantedCount, f_inCondition, nI (e + 1), 223, f_outcome, nI oc, f_stepsTaken, a_names, a_values, a_parents, a_kinds, a_operands, a_priorities, a_givenAt, a_wanted, a_axes, a_passing, a_ends, a_openers, a_table, a_results, a_matched, a_listLeft, a_listNode, a_listPosition, a_listSize, a_listBody, a_listReturn, a_outputs)) : wpX_execute post (f_nodeCount, f_innermost, f_draftLength, f_rulesGiven, f_wrongToken, f_wantedCount, f_inCondition, nI (e + 1), nI q, f_outcome, nI oc, f_stepsTaken, a_names, a_values, a_parents, a_kinds, a_operands, a_priorities, a_givenAt, a_wanted, a_axes, a_passing, a_ends, a_openers, a_table, a_results, a_matched, a_listLeft, a_listNode, a_listPosition, a_listSize, a_listBody, a_listReturn, a_outputs) := by
  refine ⟨by rw [nI_pred]; exact vp_in_nI he (by omega), nm_r (e' := a_listNode e) (by rw [nI_pred, nI_clamp (by omega)]) ⟨vp_in_nI (by omega) (by omega), nm_r (e' := nI 26) (by rw [nI_clamp (by omega)]; exact hk) ?_⟩⟩
  refine br_f (by decide) (br_f (by decide) (br_f (by decide) (br_f (by decide) (br_f (by decide) (br_f (by decide) (br_f (by decide) (br_f (by decide) (br_t (by decide) (?_)))))))))
  unfold wpX_executeEnd
  refine ⟨vp_in_nI (by omega) (by omega), by rw [nI_clamp (by omega), hop]; exact vp_in_nI ho2 (by omega), nm_r (e' := nI ko) (by rw [nI_clamp (by omega), hop, nI_clamp (by omega)]; exact hko) ?_⟩
  rcases kc with rfl | rfl | rfl
  · exact br_t (by decide) (xt_put ho (br_f (by decide) (nm_r (nI_1 q) (h21 rfl))))
  · exact br_f (by decide) (br_f (by decide) (nm_r (nI_1 q) (h24 rfl)))
  · exact br_f (by decide) (br_t (by decide) (h25 rfl))
end
section
variable {g_nodes g_inner g_rules g_place g_listed g_depth g_row g_pc g_node g_position g_size g_fault g_put g_steps : Int32} {b_name b_parent b_value b_kind b_with b_count b_bodyAt b_priority b_given b_there b_wanted b_waiting b_within b_list b_left b_reached b_sizes b_each b_backRow b_backPc b_backNode b_backPosition b_backSize b_output : Nat → Int32}
theorem ye_pre {post : SY → Prop} {r l c k : Nat} (hr : r < 6) (hl : l ≤ 30) (hc : c < l) (hcnt : b_count r = nI l) (hk : b_kind (30 * r + c) = nI k)
    (hp : ((nI k = 20 → (vp_in (nI (30 * r + c)) 210 ∧ (wpY_emit (fun u => match u with | (g_nodes_1, g_inner_1, g_rules_1, g_place_1, g_listed_1, g_depth_1, g_row_1, g_pc_1, g_node_1, g_position_1, g_size_1, g_fault_1, g_put_1, g_steps_1, b_name_1, b_parent_1, b_value_1, b_kind_1, b_with_1, b_count_1, b_bodyAt_1, b_priority_1, b_given_1, b_there_1, b_wanted_1, b_waiting_1, b_within_1, b_list_1, b_left_1, b_reached_1, b_sizes_1, b_each_1, b_backRow_1, b_backPc_1, b_backNode_1, b_backPosition_1, b_backSize_1, b_output_1) => (post (g_nodes_1, g_inner_1, g_rules_1, g_place_1, g_listed_1, g_depth_1, g_row_1, g_pc_1, g_node_1, g_position_1, g_size_1, g_fault_1, g_put_1, g_steps_1, b_name_1, b_parent_1, b_value_1, b_kind_1, b_with_1, b_count_1, b_bodyAt_1, b_priority_1, b_given_1, b_there_1, b_wanted_1, b_waiting_1, b_within_1, b_list_1, b_left_1, b_reached_1, b_sizes_1, b_each_1, b_backRow_1, b_backPc_1, b_backNode_1, b_backPosition_1, b_backSize_1, b_output_1))) (g_nodes, g_inner, g_rules, g_place, g_listed, g_depth, nI r, nI (30 * r + (c + 1)), g_node, g_position, g_size, g_fault, g_put, g_steps, b_name, b_parent, b_value, b_kind, b_with, b_count, b_bodyAt, b_priority, b_given, b_there, b_wanted, b_waiting, b_within, b_list, b_left, b_reached, b_sizes, b_each, b_backRow, b_backPc, b_backNode, b_backPosition, b_backSize, b_output) (b_with (30 * r + c))))) ∧ (¬ nI k = 20 → (((nI k = 21 → (vp_in (nI (30 * r + c)) 210 ∧ (wpY_emit (fun u => match u with | (g_nodes_1, g_inner_1, g_rules_1, g_place_1, g_listed_1, g_depth_1, g_row_1, g_pc_1, g_node_1, g_position_1, g_size_1, g_fault_1, g_put_1, g_steps_1, b_name_1, b_parent_1, b_value_1, b_kind_1, b_with_1, b_count_1, b_bodyAt_1, b_priority_1, b_given_1, b_there_1, b_wanted_1, b_waiting_1, b_within_1, b_list_1, b_left_1, b_reached_1, b_sizes_1, b_each_1, b_backRow_1, b_backPc_1, b_backNode_1, b_backPosition_1, b_backSize_1, b_output_1) => (post (g_nodes_1, g_inner_1, g_rules_1, g_place_1, g_listed_1, g_depth_1, g_row_1, g_pc_1, g_node_1, g_position_1, g_size_1, g_fault_1, g_put_1, g_steps_1, b_name_1, b_parent_1, b_value_1, b_kind_1, b_with_1, b_count_1, b_bodyAt_1, b_priority_1, b_given_1, b_there_1, b_wanted_1, b_waiting_1, b_within_1, b_list_1, b_left_1, b_reached_1, b_sizes_1, b_each_1, b_backRow_1, b_backPc_1, b_backNode_1, b_backPosition_1, b_backSize_1, b_output_1))) (g_nodes, g_inner, g_rules, g_place, g_listed, g_depth, nI r, nI (30 * r + (c + 1)), g_node, g_position, g_size, g_fault, g_put, g_steps, b_name, b_parent, b_value, b_kind, b_with, b_count, b_bodyAt, b_priority, b_given, b_there, b_wanted, b_waiting, b_within, b_list, b_left, b_reached, b_sizes, b_each, b_backRow, b_backPc, b_backNode, b_backPosition, b_backSize, b_output) (1000000 + (b_with (30 * r + c)))))) ∧ (¬ nI k = 21 → (((nI k = 26 → (wpY_finish (fun u => match u with | (g_nodes_1, g_inner_1, g_rules_1, g_place_1, g_listed_1, g_depth_1, g_row_1, g_pc_1, g_node_1, g_position_1, g_size_1, g_fault_1, g_put_1, g_steps_1, b_name_1, b_parent_1, b_value_1, b_kind_1, b_with_1, b_count_1, b_bodyAt_1, b_priority_1, b_given_1, b_there_1, b_wanted_1, b_waiting_1, b_within_1, b_list_1, b_left_1, b_reached_1, b_sizes_1, b_each_1, b_backRow_1, b_backPc_1, b_backNode_1, b_backPosition_1, b_backSize_1, b_output_1) => (post (g_nodes_1, g_inner_1, g_rules_1, g_place_1, g_listed_1, g_depth_1, g_row_1, g_pc_1, g_node_1, g_position_1, g_size_1, g_fault_1, g_put_1, g_steps_1, b_name_1, b_parent_1, b_value_1, b_kind_1, b_with_1, b_count_1, b_bodyAt_1, b_priority_1, b_given_1, b_there_1, b_wanted_1, b_waiting_1, b_within_1, b_list_1, b_left_1, b_reached_1, b_sizes_1, b_each_1, b_backRow_1, b_backPc_1, b_backNode_1, b_backPosition_1, b_backSize_1, b_output_1))) (g_nodes, g_inner, g_rules, g_place, g_listed, g_depth, nI r, nI (30 * r + (c + 1)), g_node, g_position, g_size, g_fault, g_put, g_steps, b_name, b_parent, b_value, b_kind, b_with, b_count, b_bodyAt, b_priority, b_given, b_there, b_wanted, b_waiting, b_within, b_list, b_left, b_reached, b_sizes, b_each, b_backRow, b_backPc, b_backNode, b_backPosition, b_backSize, b_output) (nI (30 * r + c)))) ∧ (¬ nI k = 26 → (((nI k = 22 → (wY_execute_118 post (nI (30 * r + l)) (nI (30 * r + c)) (nI k) g_nodes g_inner g_rules g_place g_listed g_depth (nI r) (nI (30 * r + (c + 1))) g_node g_position g_size g_fault g_put g_steps b_name b_parent b_value b_kind b_with b_count b_bodyAt b_priority b_given b_there b_wanted b_waiting b_within b_list b_left b_reached b_sizes b_each b_backRow b_backPc b_backNode b_backPosition b_backSize b_output)) ∧ (¬ nI k = 22 → (((nI k = 24 → (wY_execute_118 post (nI (30 * r + l)) (nI (30 * r + c)) (nI k) g_nodes g_inner g_rules g_place g_listed g_depth (nI r) (nI (30 * r + (c + 1))) g_node g_position g_size g_fault g_put g_steps b_name b_parent b_value b_kind b_with b_count b_bodyAt b_priority b_given b_there b_wanted b_waiting b_within b_list b_left b_reached b_sizes b_each b_backRow b_backPc b_backNode b_backPosition b_backSize b_output)) ∧ (¬ nI k = 24 → (wpY_pathEnd (fun r_171 => (wpY_path (fun r_210 u => match u with | (g_nodes_1, g_inner_1, g_rules_1, g_place_1, g_listed_1, g_depth_1, g_row_1, g_pc_1, g_node_1, g_position_1, g_size_1, g_fault_1, g_put_1, g_steps_1, b_name_1, b_parent_1, b_value_1, b_kind_1, b_with_1, b_count_1, b_bodyAt_1, b_priority_1, b_given_1, b_there_1, b_wanted_1, b_waiting_1, b_within_1, b_list_1, b_left_1, b_reached_1, b_sizes_1, b_each_1, b_backRow_1, b_backPc_1, b_backNode_1, b_backPosition_1, b_backSize_1, b_output_1) => (((nI k = 25 → (wpY_endOf (fun r_294 => (wY_execute_233 post (nI k) r_171 r_210 (r_294 + 1) g_nodes_1 g_inner_1 g_rules_1 g_place_1 g_listed_1 g_depth_1 g_row_1 g_pc_1 g_node_1 g_position_1 g_size_1 g_fault_1 g_put_1 g_steps_1 b_name_1 b_parent_1 b_value_1 b_kind_1 b_with_1 b_count_1 b_bodyAt_1 b_priority_1 b_given_1 b_there_1 b_wanted_1 b_waiting_1 b_within_1 b_list_1 b_left_1 b_reached_1 b_sizes_1 b_each_1 b_backRow_1 b_backPc_1 b_backNode_1 b_backPosition_1 b_backSize_1 b_output_1)) (g_nodes_1, g_inner_1, g_rules_1, g_place_1, g_listed_1, g_depth_1, g_row_1, g_pc_1, g_node_1, g_position_1, g_size_1, g_fault_1, g_put_1, g_steps_1, b_name_1, b_parent_1, b_value_1, b_kind_1, b_with_1, b_count_1, b_bodyAt_1, b_priority_1, b_given_1, b_there_1, b_wanted_1, b_waiting_1, b_within_1, b_list_1, b_left_1, b_reached_1, b_sizes_1, b_each_1, b_backRow_1, b_backPc_1, b_backNode_1, b_backPosition_1, b_backSize_1, b_output_1) (nI (30 * r + c)))) ∧ (¬ nI k = 25 → (wY_execute_233 post (nI k) r_171 r_210 r_171 g_nodes_1 g_inner_1 g_rules_1 g_place_1 g_listed_1 g_depth_1 g_row_1 g_pc_1 g_node_1 g_position_1 g_size_1 g_fault_1 g_put_1 g_steps_1 b_name_1 b_parent_1 b_value_1 b_kind_1 b_with_1 b_count_1 b_bodyAt_1 b_priority_1 b_given_1 b_there_1 b_wanted_1 b_waiting_1 b_within_1 b_list_1 b_left_1 b_reached_1 b_sizes_1 b_each_1 b_backRow_1 b_backPc_1 b_backNode_1 b_backPosition_1 b_backSize_1 b_output_1))))) (g_nodes, g_inner, g_rules, g_place, g_listed, g_depth, nI r, nI (30 * r + (c + 1)), g_node, g_position, g_size, g_fault, g_put, g_steps, b_name, b_parent, b_value, b_kind, b_with, b_count, b_bodyAt, b_priority, b_given, b_there, b_wanted, b_waiting, b_within, b_list, b_left, b_reached, b_sizes, b_each, b_backRow, b_backPc, b_backNode, b_backPosition, b_backSize, b_output) (nI (30 * r + (c + 1))) r_171 g_node)) (g_nodes, g_inner, g_rules, g_place, g_listed, g_depth, nI r, nI (30 * r + (c + 1)), g_node, g_position, g_size, g_fault, g_put, g_steps, b_name, b_parent, b_value, b_kind, b_with, b_count, b_bodyAt, b_priority, b_given, b_there, b_wanted, b_waiting, b_within, b_list, b_left, b_reached, b_sizes, b_each, b_backRow, b_backPc, b_backNode, b_backPosition, b_backSize, b_output) (nI (30 * r + (c + 1))) (nI (30 * r + l)))))))))))))))))) :
    wpY_execute post (g_nodes, g_inner, g_rules, g_place, g_listed, g_depth, nI r, nI (30 * r + c), g_node, g_position, g_size, g_fault, g_put, g_steps, b_name, b_parent, b_value, b_kind, b_with, b_count, b_bodyAt, b_priority, b_given, b_there, b_wanted, b_waiting, b_within, b_list, b_left, b_reached, b_sizes, b_each, b_backRow, b_backPc, b_backNode, b_backPosition, b_backSize, b_output) := by
  have e30 : (30 : Int32) * nI r = nI (30 * r) := by rw [show (30 : Int32) = nI 30 from rfl, pk_mul]
  have e1 : nI (30 * r + c) + 1 = nI (30 * r + (c + 1)) := by rw [nI_1, Nat.add_assoc]
  have cc : (nI (30 * r + c)).toNatClampNeg = 30 * r + c := nI_clamp (by omega)
  refine ⟨vp_in_nI (by omega) (by omega), nm_r (e' := nI (30 * r + l)) (by rw [nI_clamp (by omega), hcnt, e30, nI_add]) (br_f (fun z => ?_) ⟨vp_in_nI (by omega) (by omega), nm_r (e' := nI k) (by rw [cc]; exact hk) (nm_r e1 ?_)⟩)⟩
  · have := (nI_eq (by omega) (by omega)).mp z
    omega
  · rw [cc, e1]
    exact hp
theorem ye_E {post : SY → Prop} {r l : Nat} (hr : r < 6) (hl : l ≤ 30) (hcnt : b_count r = nI l) (hp : post (g_nodes, g_inner, g_rules, g_place, g_listed, g_depth, -1, nI (30 * r + l), g_node, g_position, g_size, g_fault, g_put, g_steps, b_name, b_parent, b_value, b_kind, b_with, b_count, b_bodyAt, b_priority, b_given, b_there, b_wanted, b_waiting, b_within, b_list, b_left, b_reached, b_sizes, b_each, b_backRow, b_backPc, b_backNode, b_backPosition, b_backSize, b_output)) : wpY_execute post (g_nodes, g_inner, g_rules, g_place, g_listed, g_depth, nI r, nI (30 * r + l), g_node, g_position, g_size, g_fault, g_put, g_steps, b_name, b_parent, b_value, b_kind, b_with, b_count, b_bodyAt, b_priority, b_given, b_there, b_wanted, b_waiting, b_within, b_list, b_left, b_reached, b_sizes, b_each, b_backRow, b_backPc, b_backNode, b_backPosition, b_backSize, b_output) := by
  have e30 : (30 : Int32) * nI r = nI (30 * r) := by rw [show (30 : Int32) = nI 30 from rfl, pk_mul]
  exact ⟨vp_in_nI (by omega) (by omega), nm_r (e' := nI (30 * r + l)) (by rw [nI_clamp (by omega), hcnt, e30, nI_add]) (br_t rfl hp)⟩
theorem ye_20 {post : SY → Prop} {r l c oc : Nat} (hr : r < 6) (hl : l ≤ 30) (hc : c < l) (ho : oc < 2 ^ 30) (hcnt : b_count r = nI l) (hk : b_kind (30 * r + c) = nI 20) (hp : post (g_nodes, g_inner, g_rules, g_place, g_listed, g_depth, nI r, nI (30 * r + (c + 1)), g_node, g_position, g_size, g_fault, nI (oc + 1), g_steps, b_name, b_parent, b_value, b_kind, b_with, b_count, b_bodyAt, b_priority, b_given, b_there, b_wanted, b_waiting, b_within, b_list, b_left, b_reached, b_sizes, b_each, b_backRow, b_backPc, b_backNode, b_backPosition, b_backSize, tf_o b_output oc (b_with (30 * r + c)))) : wpY_execute post (g_nodes, g_inner, g_rules, g_place, g_listed, g_depth, nI r, nI (30 * r + c), g_node, g_position, g_size, g_fault, nI oc, g_steps, b_name, b_parent, b_value, b_kind, b_with, b_count, b_bodyAt, b_priority, b_given, b_there, b_wanted, b_waiting, b_within, b_list, b_left, b_reached, b_sizes, b_each, b_backRow, b_backPc, b_backNode, b_backPosition, b_backSize, b_output) :=
  ye_pre hr hl hc hcnt hk (br_t rfl ⟨vp_in_nI (by omega) (by omega), yt_put ho hp⟩)
theorem ye_21 {post : SY → Prop} {r l c oc : Nat} (hr : r < 6) (hl : l ≤ 30) (hc : c < l) (ho : oc < 2 ^ 30) (hcnt : b_count r = nI l) (hk : b_kind (30 * r + c) = nI 21) (hp : post (g_nodes, g_inner, g_rules, g_place, g_listed, g_depth, nI r, nI (30 * r + (c + 1)), g_node, g_position, g_size, g_fault, nI (oc + 1), g_steps, b_name, b_parent, b_value, b_kind, b_with, b_count, b_bodyAt, b_priority, b_given, b_there, b_wanted, b_waiting, b_within, b_list, b_left, b_reached, b_sizes, b_each, b_backRow, b_backPc, b_backNode, b_backPosition, b_backSize, tf_o b_output oc (1000000 + b_with (30 * r + c)))) : wpY_execute post (g_nodes, g_inner, g_rules, g_place, g_listed, g_depth, nI r, nI (30 * r + c), g_node, g_position, g_size, g_fault, nI oc, g_steps, b_name, b_parent, b_value, b_kind, b_with, b_count, b_bodyAt, b_priority, b_given, b_there, b_wanted, b_waiting, b_within, b_list, b_left, b_reached, b_sizes, b_each, b_backRow, b_backPc, b_backNode, b_backPosition, b_backSize, b_output) :=
  ye_pre hr hl hc hcnt hk (br_f (by decide) (br_t rfl ⟨vp_in_nI (by omega) (by omega), yt_put ho hp⟩))
theorem ye_26 {post : SY → Prop} {K : Nat → Nat} {O : Nat → Int32} {r l c oc o : Nat} (W : gm_W K l) (hk : ys_k b_kind b_with (30 * r) K O l) (hr : r < 6) (hc : c < l) (ho : oc < 2 ^ 30) (hcnt : b_count r = nI l) (k26 : K c = 26) (hoc : o < c) (ko : K o = 21 ∨ K o = 24 ∨ K o = 25) (eo : gm_e K o = c + 1)
    (h21 : K o = 21 → post (g_nodes, g_inner, g_rules, g_place, g_listed, g_depth, nI r, nI (30 * r + (c + 1)), g_node, g_position, g_size, g_fault, nI (oc + 1), g_steps, b_name, b_parent, b_value, b_kind, b_with, b_count, b_bodyAt, b_priority, b_given, b_there, b_wanted, b_waiting, b_within, b_list, b_left, b_reached, b_sizes, b_each, b_backRow, b_backPc, b_backNode, b_backPosition, b_backSize, tf_o b_output oc 2000000)) (h24 : K o = 24 → post (g_nodes, g_inner, g_rules, g_place, g_listed, g_depth, nI r, nI (30 * r + (c + 1)), g_node, g_position, g_size, g_fault, nI oc, g_steps, b_name, b_parent, b_value, b_kind, b_with, b_count, b_bodyAt, b_priority, b_given, b_there, b_wanted, b_waiting, b_within, b_list, b_left, b_reached, b_sizes, b_each, b_backRow, b_backPc, b_backNode, b_backPosition, b_backSize, b_output)) (h25 : K o = 25 → post (g_nodes, g_inner, g_rules, g_place, g_listed, g_depth, -1, nI (30 * r + (c + 1)), g_node, g_position, g_size, g_fault, nI oc, g_steps, b_name, b_parent, b_value, b_kind, b_with, b_count, b_bodyAt, b_priority, b_given, b_there, b_wanted, b_waiting, b_within, b_list, b_left, b_reached, b_sizes, b_each, b_backRow, b_backPc, b_backNode, b_backPosition, b_backSize, b_output)) : wpY_execute post (g_nodes, g_inner, g_rules, g_place, g_listed, g_depth, nI r, nI (30 * r + c), g_node, g_position, g_size, g_fault, nI oc, g_steps, b_name, b_parent, b_value, b_kind, b_with, b_count, b_bodyAt, b_priority, b_given, b_there, b_wanted, b_waiting, b_within, b_list, b_left, b_reached, b_sizes, b_each, b_backRow, b_backPc, b_backNode, b_backPosition, b_backSize, b_output) := by
  have op := gm_opp W (show o < l by omega) ko
  refine ye_pre hr W.1 hc hcnt (by rw [(hk c hc).1, k26]) (br_f (by decide) (br_f (by decide) (br_t rfl ?_)))
  unfold wpY_finish
  refine yt_opener W (by omega) hk hc hoc k26 eo op.1 op.2.1 ?_
  rcases ko with k | k | k
  · rw [k]; exact br_t rfl (yt_put ho (br_f (by decide) (h21 k)))
  · rw [k]; exact br_f (by decide) (br_f (by decide) (h24 k))
  · rw [k]; exact br_f (by decide) (br_t rfl (h25 k))
theorem ye_118 {post : SY → Prop} {K : Nat → Nat} {O : Nat → Int32} {r l c oc n nd : Nat} {tb : Nat → Nat → Int32} (W : gm_W K l) (hk : ys_k b_kind b_with (30 * r) K O l) (hr : r < 6) (hc : c < l) (ho : oc < 2 ^ 30) (T : tr_T b_parent n) (hov : ∀ x, x < l → K x = 15 → ∃ v, v < 72 ∧ O x = nI v) (TE : ∀ c, c < l → nu_TE K O b_value b_parent b_name l n tb c) (kc : K c = 22 ∨ K c = 24) (hnd : nd < n)
    (h22 : K c = 22 → ∀ (gl : Int32) (wt bl bw : Nat → Int32), post (nI n, g_inner, g_rules, g_place, gl, g_depth, nI r, nI (30 * r + gm_e K c), nI nd, g_position, g_size, g_fault, nI (oc + 1), g_steps, b_name, b_parent, b_value, b_kind, b_with, b_count, b_bodyAt, b_priority, b_given, b_there, b_wanted, wt, bw, bl, b_left, b_reached, b_sizes, b_each, b_backRow, b_backPc, b_backNode, b_backPosition, b_backSize, tf_o b_output oc (nu_n K O b_value tb nd g_position g_size (c + 1))))
    (h0 : K c = 24 → nu_n K O b_value tb nd g_position g_size (c + 1) = 0 → ∀ (gl : Int32) (wt bl bw : Nat → Int32), post (nI n, g_inner, g_rules, g_place, gl, g_depth, nI r, nI (30 * r + gm_e K c), nI nd, g_position, g_size, g_fault, nI oc, g_steps, b_name, b_parent, b_value, b_kind, b_with, b_count, b_bodyAt, b_priority, b_given, b_there, b_wanted, wt, bw, bl, b_left, b_reached, b_sizes, b_each, b_backRow, b_backPc, b_backNode, b_backPosition, b_backSize, b_output))
    (h1 : K c = 24 → ¬ nu_n K O b_value tb nd g_position g_size (c + 1) = 0 → ∀ (gl : Int32) (wt bl bw : Nat → Int32), post (nI n, g_inner, g_rules, g_place, gl, g_depth, nI r, nI (30 * r + gm_e K (c + 1)), nI nd, g_position, g_size, g_fault, nI oc, g_steps, b_name, b_parent, b_value, b_kind, b_with, b_count, b_bodyAt, b_priority, b_given, b_there, b_wanted, wt, bw, bl, b_left, b_reached, b_sizes, b_each, b_backRow, b_backPc, b_backNode, b_backPosition, b_backSize, b_output)) :
    wY_execute_118 post (nI (30 * r + l)) (nI (30 * r + c)) (nI (K c)) (nI n) g_inner g_rules g_place g_listed g_depth (nI r) (nI (30 * r + (c + 1))) (nI nd) g_position g_size g_fault (nI oc) g_steps b_name b_parent b_value b_kind b_with b_count b_bodyAt b_priority b_given b_there b_wanted b_waiting b_within b_list b_left b_reached b_sizes b_each b_backRow b_backPc b_backNode b_backPosition b_backSize b_output := by
  have hl := W.1
  have L := W.2.2 c hc
  have e1 : nI (30 * r + c) + 1 = nI (30 * r + (c + 1)) := by rw [nI_1, Nat.add_assoc]
  have num : K (c + 1) ≤ 14 ∧ c + 1 < l ∧ gm_e K (c + 1) ≤ l ∧ gm_bp K l (gm_e K (c + 1)) ∧ (K c = 22 → gm_e K c = gm_e K (c + 1)) := by
    have L2 := L.2.1
    rcases kc with k | k
    · obtain ⟨p1, p2, p3, p4⟩ := L.2.2.2.2.2.2.2.2.2.2.2.2.2.1 k
      exact ⟨p1, by omega, by omega, by rw [← p2]; exact p4, fun _ => p2⟩
    · obtain ⟨p1, p2, q1, q2, q3, q4⟩ := L.2.2.2.2.2.2.2.2.2.2.2.2.2.2.2.1 k
      exact ⟨p1, by omega, by omega, q2, fun z => by omega⟩
  obtain ⟨k14, c1l, el, bp, e22⟩ := num
  have k27 : K (gm_e K (c + 1)) ≠ 15 ∧ K (gm_e K (c + 1)) ≠ 16 := by
    rcases bp with z | z
    · have := W.2.1 (gm_e K (c + 1)) (by omega); omega
    · omega
  have flat := (W.2.2 (c + 1) c1l).2.2.2.2.2.2.2.2.2.2.2.2.2.2.2.2.2.2 (by omega)
  unfold wY_execute_118
  rw [e1]
  refine yw_numberEnd W (by omega) hk (Nat.le_refl _) c1l k14 el ?_
  refine yw_outer W (by omega) hk T hov TE c1l k14 hnd (fun x x1 x2 => flat x x1 x2) k27 fun gl wt bl bw => ?_
  rcases kc with k | k
  · rw [k]
    refine br_t rfl (yt_put ho ?_)
    have := h22 k gl wt bl bw
    rw [e22 k] at this
    exact this
  · rw [k]
    have op := gm_opp W hc (Or.inr (Or.inl k))
    refine br_f (by decide) (br_c (fun z => yt_endOf W (by omega) hk hc (Or.inr (Or.inl k)) op.1 op.2.1 (nm_r (e' := nI (30 * r + gm_e K c)) ?_ (h0 k z gl wt bl bw))) (fun z => h1 k z gl wt bl bw))
    have := L.1
    rw [nI_1, show 30 * r + (gm_e K c - 1) + 1 = 30 * r + gm_e K c by omega]
theorem upd_i {f : Nat → Int32} {k : Nat} {x : Int32} : upd (upd f k x) k x = upd f k x := by
  funext j
  by_cases h : j = k
  · rw [h, pk_us, pk_us]
  · rw [pk_un h, pk_un h]
end
end
section
/-! transform: lists begun by a token, and the handling of a node, in the reference -/
section
variable {g_nodes g_inner g_rules g_place g_listed g_depth g_row g_pc g_node g_position g_size g_fault g_put g_steps : Int32} {b_name b_parent b_value b_kind b_with b_count b_bodyAt b_priority b_given b_there b_wanted b_waiting b_within b_list b_left b_reached b_sizes b_each b_backRow b_backPc b_backNode b_backPosition b_backSize b_output : Nat → Int32}
theorem ye_path {post : SY → Prop} {K : Nat → Nat} {O : Nat → Int32} {r l c n nd d : Nat} {tb : Nat → Nat → Int32} (W : gm_W K l) (hk : ys_k b_kind b_with (30 * r) K O l) (hr : r < 6) (hc : c < l) (hcnt : b_count r = nI l) (T : tr_T b_parent n) (hov : ∀ x, x < l → K x = 15 → ∃ v, v < 72 ∧ O x = nI v) (TE : ∀ c, c < l → nu_TE K O b_value b_parent b_name l n tb c) (kc : K c = 23 ∨ K c = 25) (hnd : nd < n) (hd : d ≤ 12)
    (hT : d < 12 → ∀ (gl : Int32) (bl bw : Nat → Int32), post (nI n, g_inner, g_rules, g_place, gl, nI (d + 1), -1, nI (30 * r + gm_e K c), nI nd, g_position, g_size, 0, g_put, g_steps, b_name, b_parent, b_value, b_kind, b_with, b_count, b_bodyAt, b_priority, b_given, b_there, b_wanted, b_waiting, bw, bl, upd b_left d (tb (c + 1) nd), upd b_reached d 0, upd b_sizes d (nI (nu_cnt (tb (c + 1) nd) n)), upd b_each d (if K c = 25 then nI (30 * r + gm_e K (c + 1)) else -1), upd b_backRow d (nI r), upd b_backPc d (nI (30 * r + gm_e K c)), upd b_backNode d (nI nd), upd b_backPosition d g_position, upd b_backSize d g_size, b_output))
    (hF : d = 12 → ∀ (gl : Int32) (bl bw : Nat → Int32), post (nI n, g_inner, g_rules, g_place, gl, nI d, nI r, nI (30 * r + gm_e K c), nI nd, g_position, g_size, 2, g_put, g_steps, b_name, b_parent, b_value, b_kind, b_with, b_count, b_bodyAt, b_priority, b_given, b_there, b_wanted, b_waiting, bw, bl, b_left, b_reached, b_sizes, b_each, b_backRow, b_backPc, b_backNode, b_backPosition, b_backSize, b_output)) :
    wpY_execute post (nI n, g_inner, g_rules, g_place, g_listed, nI d, nI r, nI (30 * r + c), nI nd, g_position, g_size, 0, g_put, g_steps, b_name, b_parent, b_value, b_kind, b_with, b_count, b_bodyAt, b_priority, b_given, b_there, b_wanted, b_waiting, b_within, b_list, b_left, b_reached, b_sizes, b_each, b_backRow, b_backPc, b_backNode, b_backPosition, b_backSize, b_output) := by
  have hl := W.1
  have L := W.2.2 c hc
  have L1 := L.1
  have L2 := L.2.1
  have pth : K (c + 1) = 15 ∧ c + 1 < l ∧ gm_e K (c + 1) ≤ l ∧ (K c = 23 → gm_e K c = gm_e K (c + 1)) := by
    rcases kc with k | k
    · obtain ⟨p1, p2, p3, p4⟩ := L.2.2.2.2.2.2.2.2.2.2.2.2.2.2.1 k
      exact ⟨p1, by omega, by omega, fun _ => p2⟩
    · obtain ⟨p1, p2, q1, q2⟩ := L.2.2.2.2.2.2.2.2.2.2.2.2.2.2.2.2.1 k
      exact ⟨p1, by omega, by omega, fun z => by omega⟩
  obtain ⟨k15, c1l, el, e23⟩ := pth
  have vd : vp_in (nI d) 13 := vp_in_nI (by omega) (by omega)
  have cd : (nI d).toNatClampNeg = d := nI_clamp (by omega)
  have kne : ∀ k, k < 2 ^ 31 → K c ≠ k → ¬ nI (K c) = nI k := fun k h1 h2 z => h2 ((yw_knk W h1).mp z)
  refine ye_pre hr hl hc hcnt (hk c hc).1 (br_f (kne 20 (by omega) (by omega)) (br_f (kne 21 (by omega) (by omega)) (br_f (kne 26 (by omega) (by omega)) (br_f (kne 22 (by omega) (by omega)) (br_f (kne 24 (by omega) (by omega)) ?_)))))
  refine yw_pathEnd W (by omega) hk (Nat.le_refl _) k15 el ?_
  refine yw_path (tb := tb) W (by omega) hk T hov TE el k15 (Nat.le_refl _) c1l hnd fun gl bl bw => ?_
  rcases kc with k | k
  · rw [k]
    refine br_f (by decide) (br_f (by decide) ?_)
    rw [← e23 k]
    rcases Nat.lt_or_ge d 12 with z | z
    · unfold wY_execute_257
      refine yt_beginT T.1 z (br_t rfl (br_f (by decide) ?_))
      have := hT z gl bl bw
      rw [if_neg (by omega)] at this
      exact this
    · unfold wY_execute_257
      exact yt_beginF (by omega) (br_f (by decide) (hF (by omega) gl bl bw))
  · rw [k]
    have op := gm_opp W hc (Or.inr (Or.inr k))
    refine br_t rfl (yt_endOf W (by omega) hk hc (Or.inr (Or.inr k)) op.1 op.2.1 (br_t rfl ?_))
    rw [nI_1, show 30 * r + (gm_e K c - 1) + 1 = 30 * r + gm_e K c by omega]
    rcases Nat.lt_or_ge d 12 with z | z
    · unfold wY_execute_257
      refine yt_beginT T.1 z (br_t rfl (br_t rfl ⟨by rw [nI_pred]; exact vd, nm_r (e' := upd b_backRow d (nI r)) (by rw [nI_pred, cd, upd_i]) ?_⟩))
      have := hT z gl bl bw
      rw [if_pos k] at this
      exact this
    · unfold wY_execute_257
      exact yt_beginF (by omega) (br_f (by decide) (hF (by omega) gl bl bw))
theorem yt_handleR {post : SY → Prop} {K : Nat → Nat → Nat} {O : Nat → Nat → Int32} {len : Nat → Nat} {n m r : Nat} {tb : Nat → Nat → Nat → Int32} {M : Nat → Bool} {G : Nat → Int32} {e0 : Nat} (T : tr_T b_parent n) (hm : m < n) (H : ∀ r, r < 6 → yr_H b_kind b_with b_bodyAt b_there b_value b_parent b_name K O len n tb r)
    (hM0 : ∀ r, r < 6 → b_there r = 0 → M r = false) (hM1 : ∀ r, r < 6 → b_there r = 1 → (M r = true ↔ ∃ b, b < n ∧ (m = b ∨ tr_a b_parent b m = true) ∧ bt (tb r 0 b) m = true))
    (hG : ∀ r x, r < 6 → x < 6 → b_there r = 1 → b_there x = 1 → (b_given r ≤ b_given x ↔ G r ≤ G x)) (hb : bs M b_priority G 6 0 none = some r) (hr : r < 6) (hba : b_bodyAt r = nI e0) (he : e0 ≤ 30)
    (hp : ∀ (gl : Int32) (bl bw : Nat → Int32), post (nI n, g_inner, g_rules, g_place, gl, g_depth, nI r, nI (30 * r + e0), g_node, g_position, g_size, g_fault, g_put, g_steps, b_name, b_parent, b_value, b_kind, b_with, b_count, b_bodyAt, b_priority, b_given, b_there, b_wanted, b_waiting, bw, bl, b_left, b_reached, b_sizes, b_each, b_backRow, b_backPc, b_backNode, b_backPosition, b_backSize, b_output)) : wpY_handle post (nI n, g_inner, g_rules, g_place, g_listed, g_depth, g_row, g_pc, g_node, g_position, g_size, g_fault, g_put, g_steps, b_name, b_parent, b_value, b_kind, b_with, b_count, b_bodyAt, b_priority, b_given, b_there, b_wanted, b_waiting, b_within, b_list, b_left, b_reached, b_sizes, b_each, b_backRow, b_backPc, b_backNode, b_backPosition, b_backSize, b_output) (nI m) := by
  have e30 : (30 : Int32) * nI r = nI (30 * r) := by rw [show (30 : Int32) = nI 30 from rfl, pk_mul]
  unfold wpY_handle
  refine yo_ruleFor T hm H hM0 hM1 hG fun gl bl bw => ?_
  rw [hb]
  refine br_f (nI_pos (n := r) (by omega)) ⟨vp_in_nI (n := r) hr (by omega), nm_r (e' := nI (30 * r + e0)) ?_ (hp gl bl bw)⟩
  show (30 : Int32) * nI r + b_bodyAt (nI r).toNatClampNeg = _
  rw [nI_clamp (by omega), hba, e30, nI_add]
theorem yt_handleN {post : SY → Prop} {K : Nat → Nat → Nat} {O : Nat → Nat → Int32} {len : Nat → Nat} {n m : Nat} {tb : Nat → Nat → Nat → Int32} {M : Nat → Bool} {G : Nat → Int32} {ch : Int32} (T : tr_T b_parent n) (hm : m < n) (H : ∀ r, r < 6 → yr_H b_kind b_with b_bodyAt b_there b_value b_parent b_name K O len n tb r)
    (hM0 : ∀ r, r < 6 → b_there r = 0 → M r = false) (hM1 : ∀ r, r < 6 → b_there r = 1 → (M r = true ↔ ∃ b, b < n ∧ (m = b ∨ tr_a b_parent b m = true) ∧ bt (tb r 0 b) m = true))
    (hG : ∀ r x, r < 6 → x < 6 → b_there r = 1 → b_there x = 1 → (b_given r ≤ b_given x ↔ G r ≤ G x)) (hb : bs M b_priority G 6 0 none = none) (hch : ∀ i, i < 32 → bt ch i = (decide (i < n) && decide (b_parent i = nI m)))
    (h0 : ch = 0 → ∀ (gl : Int32) (bl bw : Nat → Int32), wpY_emit (fun u => match u with | (g_nodes_1, g_inner_1, g_rules_1, g_place_1, g_listed_1, g_depth_1, g_row_1, g_pc_1, g_node_1, g_position_1, g_size_1, g_fault_1, g_put_1, g_steps_1, b_name_1, b_parent_1, b_value_1, b_kind_1, b_with_1, b_count_1, b_bodyAt_1, b_priority_1, b_given_1, b_there_1, b_wanted_1, b_waiting_1, b_within_1, b_list_1, b_left_1, b_reached_1, b_sizes_1, b_each_1, b_backRow_1, b_backPc_1, b_backNode_1, b_backPosition_1, b_backSize_1, b_output_1) => post (g_nodes_1, g_inner_1, g_rules_1, g_place_1, g_listed_1, g_depth_1, g_row_1, g_pc_1, g_node_1, g_position_1, g_size_1, g_fault_1, g_put_1, g_steps_1, b_name_1, b_parent_1, b_value_1, b_kind_1, b_with_1, b_count_1, b_bodyAt_1, b_priority_1, b_given_1, b_there_1, b_wanted_1, b_waiting_1, b_within_1, b_list_1, b_left_1, b_reached_1, b_sizes_1, b_each_1, b_backRow_1, b_backPc_1, b_backNode_1, b_backPosition_1, b_backSize_1, b_output_1)) (nI n, g_inner, g_rules, g_place, gl, g_depth, g_row, g_pc, g_node, g_position, g_size, g_fault, g_put, g_steps, b_name, b_parent, b_value, b_kind, b_with, b_count, b_bodyAt, b_priority, b_given, b_there, b_wanted, b_waiting, bw, bl, b_left, b_reached, b_sizes, b_each, b_backRow, b_backPc, b_backNode, b_backPosition, b_backSize, b_output) (b_value m)) (h1 : ¬ ch = 0 → ∀ (gl : Int32) (bl bw : Nat → Int32), wpY_begin (fun u => match u with | (g_nodes_1, g_inner_1, g_rules_1, g_place_1, g_listed_1, g_depth_1, g_row_1, g_pc_1, g_node_1, g_position_1, g_size_1, g_fault_1, g_put_1, g_steps_1, b_name_1, b_parent_1, b_value_1, b_kind_1, b_with_1, b_count_1, b_bodyAt_1, b_priority_1, b_given_1, b_there_1, b_wanted_1, b_waiting_1, b_within_1, b_list_1, b_left_1, b_reached_1, b_sizes_1, b_each_1, b_backRow_1, b_backPc_1, b_backNode_1, b_backPosition_1, b_backSize_1, b_output_1) => post (g_nodes_1, g_inner_1, g_rules_1, g_place_1, g_listed_1, g_depth_1, g_row_1, g_pc_1, g_node_1, g_position_1, g_size_1, g_fault_1, g_put_1, g_steps_1, b_name_1, b_parent_1, b_value_1, b_kind_1, b_with_1, b_count_1, b_bodyAt_1, b_priority_1, b_given_1, b_there_1, b_wanted_1, b_waiting_1, b_within_1, b_list_1, b_left_1, b_reached_1, b_sizes_1, b_each_1, b_backRow_1, b_backPc_1, b_backNode_1, b_backPosition_1, b_backSize_1, b_output_1)) (nI n, g_inner, g_rules, g_place, gl, g_depth, g_row, g_pc, g_node, g_position, g_size, g_fault, g_put, g_steps, b_name, b_parent, b_value, b_kind, b_with, b_count, b_bodyAt, b_priority, b_given, b_there, b_wanted, b_waiting, bw, bl, b_left, b_reached, b_sizes, b_each, b_backRow, b_backPc, b_backNode, b_backPosition, b_backSize, b_output) ch (-1)) : wpY_handle post (nI n, g_inner, g_rules, g_place, g_listed, g_depth, g_row, g_pc, g_node, g_position, g_size, g_fault, g_put, g_steps, b_name, b_parent, b_value, b_kind, b_with, b_count, b_bodyAt, b_priority, b_given, b_there, b_wanted, b_waiting, b_within, b_list, b_left, b_reached, b_sizes, b_each, b_backRow, b_backPc, b_backNode, b_backPosition, b_backSize, b_output) (nI m) := by
  have hn := T.1
  unfold wpY_handle
  refine yo_ruleFor T hm H hM0 hM1 hG fun gl bl bw => ?_
  rw [hb]
  refine br_t (by decide) ⟨n + 1, ?_⟩
  exact yt_36 (post := post) hn (by omega) hch (fun q => h0 q gl bl bw) (fun q => h1 q gl bl bw) n 0 (n + 1) 0 (by omega) (by omega) (fun i hi => by rw [b_0, decide_eq_false (show ¬ i < 0 by omega), Bool.false_and])
end
end
section
/-! transform: the invariant -/
def tp (K : Nat → Nat → Nat) (len : Nat → Nat) (th : Nat → Int32) (r c : Nat) : Prop := r < 6 ∧ th r = 1 ∧ gm_bp (K r) (len r) c ∧ len r ≤ 30
def tl (K : Nat → Nat → Nat) (len : Nat → Nat) (th : Nat → Int32) (n : Nat) (LL LN LP LS LB LR BL BR BS BE BRow BPc BNode BPos BSz : Nat → Int32) (j : Nat) : Prop :=
  BL j = LL j ∧ (∀ i, i < 32 → bt (LL j) i = true → i < n) ∧ BR j = LP j ∧ BS j = LS j ∧
  ((LB j = -1 ∧ BE j = -1) ∨ ∃ r c, tp K len th r c ∧ LB j = nI (32 * r + c) ∧ BE j = nI (30 * r + c) ∧ BRow j = nI r) ∧
  ((LR j = nI 223 ∧ BRow j = -1) ∨ ∃ r c, tp K len th r c ∧ LR j = nI (32 * r + c) ∧ BRow j = nI r ∧ BPc j = nI (30 * r + c) ∧ ∃ i a, j = i + 1 ∧ a < n ∧ LN i = nI a ∧ BNode j = nI a ∧ BPos j = LP i ∧ BSz j = LS i)
def tu (K : Nat → Nat → Nat) (len : Nat → Nat) (th : Nat → Int32) (n : Nat) (LN LP LS : Nat → Int32) (d : Nat) (cu row pc node pos size : Int32) : Prop :=
  (cu = nI 223 ∧ row = -1) ∨ ∃ r c, tp K len th r c ∧ cu = nI (32 * r + c) ∧ row = nI r ∧ pc = nI (30 * r + c) ∧ ∃ i a, d = i + 1 ∧ a < n ∧ LN i = nI a ∧ node = nI a ∧ pos = LP i ∧ size = LS i
def rm (x : Int32) : Nat := 31 - x.toNatClampNeg % 32
theorem rm_i : rm (nI 223) = 0 := by decide
theorem rm_c {r c : Nat} (hr : r < 6) (hc : c ≤ 30) : rm (nI (32 * r + c)) = 31 - c := by
  unfold rm
  rw [nI_clamp (by omega)]
  omega
def ph (LR : Nat → Int32) : Nat → Nat
  | 0 => 0
  | j + 1 => ph LR j + (1 + 2 * rm (LR j))
theorem ph_c {L L' : Nat → Int32} : ∀ {d : Nat}, (∀ i, i < d → L' i = L i) → ph L' d = ph L d
  | 0, _ => rfl
  | d + 1, h => by rw [ph, ph, ph_c (fun i hi => h i (by omega)), h d (by omega)]
theorem tl_lt {K : Nat → Nat → Nat} {len : Nat → Nat} {th : Nat → Int32} {n m j : Nat} {LL LN LP LS LB LR BL BR BS BE BRow BPc BNode BPos BSz LL' LN' LP' LS' LB' LR' BL' BR' BS' BE' BRow' BPc' BNode' BPos' BSz' : Nat → Int32} (hj : j < m)
    (a1 : ∀ i, i < m → LL' i = LL i) (a2 : ∀ i, i + 1 < m → LN' i = LN i) (a3 : ∀ i, i < m → LP' i = LP i) (a4 : ∀ i, i < m → LS' i = LS i) (a5 : ∀ i, i < m → LB' i = LB i) (a6 : ∀ i, i < m → LR' i = LR i) (a7 : ∀ i, i < m → BL' i = BL i) (a8 : ∀ i, i < m → BR' i = BR i) (a9 : ∀ i, i < m → BS' i = BS i) (a10 : ∀ i, i < m → BE' i = BE i) (a11 : ∀ i, i < m → BRow' i = BRow i) (a12 : ∀ i, i < m → BPc' i = BPc i) (a13 : ∀ i, i < m → BNode' i = BNode i) (a14 : ∀ i, i < m → BPos' i = BPos i) (a15 : ∀ i, i < m → BSz' i = BSz i)
    (h : tl K len th n LL LN LP LS LB LR BL BR BS BE BRow BPc BNode BPos BSz j) : tl K len th n LL' LN' LP' LS' LB' LR' BL' BR' BS' BE' BRow' BPc' BNode' BPos' BSz' j := by
  unfold tl
  rw [a1 j hj, a3 j hj, a4 j hj, a5 j hj, a6 j hj, a7 j hj, a8 j hj, a9 j hj, a10 j hj, a11 j hj, a12 j hj, a13 j hj, a14 j hj, a15 j hj]
  obtain ⟨h1, h2, h3, h4, h5, h6⟩ := h
  refine ⟨h1, h2, h3, h4, h5, ?_⟩
  rcases h6 with z | ⟨r, c, p, q1, q2, q3, i, a, e, ha, q4, q5, q6, q7⟩
  · exact Or.inl z
  · exact Or.inr ⟨r, c, p, q1, q2, q3, i, a, e, ha, by rw [a2 i (by omega)]; exact q4, q5, by rw [a3 i (by omega)]; exact q6, by rw [a4 i (by omega)]; exact q7⟩
end
section
/-! transform: a turn, the innermost list going on -/
variable {f_nodeCount f_innermost f_draftLength f_rulesGiven f_wrongToken f_wantedCount f_inCondition f_depth f_cursor f_outcome f_outputCount f_stepsTaken : Int32} {a_names a_values a_parents a_kinds a_operands a_priorities a_givenAt a_wanted a_axes a_passing a_ends a_openers a_table a_results a_matched a_listLeft a_listNode a_listPosition a_listSize a_listBody a_listReturn a_outputs : Nat → Int32}
variable {g_nodes g_inner g_rules g_place g_listed g_depth g_row g_pc g_node g_position g_size g_fault g_put g_steps : Int32} {b_name b_parent b_value b_kind b_with b_count b_bodyAt b_priority b_given b_there b_wanted b_waiting b_within b_list b_left b_reached b_sizes b_each b_backRow b_backPc b_backNode b_backPosition b_backSize b_output : Nat → Int32}
variable {n k : Nat} {K : Nat → Nat → Nat} {len : Nat → Nat} {P : Int32 → SX → Prop} {Z : (Int32 → SY → Prop) → Prop}
/-- the transformation has ended with an answer other than OK -/
theorem tf_stop (hP : ∀ (rr : Int32) (d oc st : Nat) (cu row pc node pos size : Int32) (Rs LL LN LP LS LB LR ou BL BR BS BE BRow BPc BNode BPos BSz : Nat → Int32), (∀ post : Int32 → SY → Prop, (∀ (gl : Int32) (wt bl bw : Nat → Int32), post rr (nI n, g_inner, g_rules, g_place, gl, nI d, row, pc, node, pos, size, rr, nI oc, nI st, a_names, a_parents, a_values, b_kind, b_with, b_count, b_bodyAt, a_priorities, b_given, b_there, b_wanted, wt, bw, bl, BL, BR, BS, BE, BRow, BPc, BNode, BPos, BSz, ou)) → Z post) → P rr (nI n, f_innermost, f_draftLength, f_rulesGiven, f_wrongToken, f_wantedCount, f_inCondition, nI d, cu, rr, nI oc, nI st, a_names, a_values, a_parents, a_kinds, a_operands, a_priorities, a_givenAt, a_wanted, a_axes, a_passing, a_ends, a_openers, a_table, Rs, a_matched, LL, LN, LP, LS, LB, LR, ou)) {rr : Int32} (hrr : ¬ rr = 0) {t fX d oc st : Nat} {cu row pc node pos size : Int32} {Rs LL LN LP LS LB LR ou BL BR BS BE BRow BPc BNode BPos BSz : Nat → Int32} (ht : t < 30000) (hf : 0 < fX) (hd : 0 < d) (hd2 : d ≤ 12) (H : ∀ post : Int32 → SY → Prop, (∃ f, ∀ (gl : Int32) (wt bl bw : Nat → Int32), wY_transform_40 post f (nI n) g_inner g_rules g_place gl (nI d) row pc node pos size rr (nI oc) (nI st) a_names a_parents a_values b_kind b_with b_count b_bodyAt a_priorities b_given b_there b_wanted wt bw bl BL BR BS BE BRow BPc BNode BPos BSz ou) → Z post) : wX_transform_52 P fX (nI t) (nI n) f_innermost f_draftLength f_rulesGiven f_wrongToken f_wantedCount f_inCondition (nI d) cu rr (nI oc) (nI st) a_names a_values a_parents a_kinds a_operands a_priorities a_givenAt a_wanted a_axes a_passing a_ends a_openers a_table Rs a_matched LL LN LP LS LB LR ou := by
  obtain ⟨f, rfl⟩ : ∃ x, fX = x + 1 := ⟨fX - 1, by omega⟩
  refine br_f (nI_ge (b := 1000000) (by omega) (by decide)) (br_f (nI_nle hd (by omega)) (br_f hrr (hP rr d oc st cu row pc node pos size Rs LL LN LP LS LB LR ou BL BR BS BE BRow BPc BNode BPos BSz fun post hpost => H post ⟨1, fun gl wt bl bw => br_f (nI_nle hd (by omega)) (br_f hrr (hpost gl wt bl bw))⟩)))
/-- the next node of the innermost list, or where it began -/
theorem tf_adv (T : tr_T a_parents n) (hS : ∀ r, r < 7 → rl_S a_kinds a_operands b_kind b_with K len r) (hR : ∀ r, r < 6 → rl_R k K len a_givenAt b_count b_bodyAt b_given b_there r) (hk : k < 10000) (hA : xs_ax a_axes a_parents n) (hD : xt_D a_operands a_values a_parents a_names K len n a_ends a_openers a_table 0 192) (hM : ∀ r, r < 6 → ∀ i, i < n → (bt (a_matched r) i = true ↔ K r 0 = 15 ∧ ∃ a, a < n ∧ bt (a_table (32 * r * 24 + a)) i = true ∧ (i = a ∨ tr_a a_parents a i = true))) (hP : ∀ (rr : Int32) (d oc st : Nat) (cu row pc node pos size : Int32) (Rs LL LN LP LS LB LR ou BL BR BS BE BRow BPc BNode BPos BSz : Nat → Int32), (∀ post : Int32 → SY → Prop, (∀ (gl : Int32) (wt bl bw : Nat → Int32), post rr (nI n, g_inner, g_rules, g_place, gl, nI d, row, pc, node, pos, size, rr, nI oc, nI st, a_names, a_parents, a_values, b_kind, b_with, b_count, b_bodyAt, a_priorities, b_given, b_there, b_wanted, wt, bw, bl, BL, BR, BS, BE, BRow, BPc, BNode, BPos, BSz, ou)) → Z post) → P rr (nI n, f_innermost, f_draftLength, f_rulesGiven, f_wrongToken, f_wantedCount, f_inCondition, nI d, cu, rr, nI oc, nI st, a_names, a_values, a_parents, a_kinds, a_operands, a_priorities, a_givenAt, a_wanted, a_axes, a_passing, a_ends, a_openers, a_table, Rs, a_matched, LL, LN, LP, LS, LB, LR, ou)) {N : Nat} (ih : ∀ (t fX d st oc : Nat) (cu row pc node pos size : Int32) (Rs LL LN LP LS LB LR ou BL BR BS BE BRow BPc BNode BPos BSz : Nat → Int32), N < fX → (150 - st) * 64 + ph LR d + 2 * rm cu ≤ N → t + N ≤ 20000 → d ≤ 12 → st ≤ 150 → oc ≤ t → (∀ j, j < d → tl K len b_there n LL LN LP LS LB LR BL BR BS BE BRow BPc BNode BPos BSz j) → tu K len b_there n LN LP LS d cu row pc node pos size → (∀ post : Int32 → SY → Prop, (∃ f, ∀ (gl : Int32) (wt bl bw : Nat → Int32), wY_transform_40 post f (nI n) g_inner g_rules g_place gl (nI d) row pc node pos size 0 (nI oc) (nI st) a_names a_parents a_values b_kind b_with b_count b_bodyAt a_priorities b_given b_there b_wanted wt bw bl BL BR BS BE BRow BPc BNode BPos BSz ou) → Z post) → wX_transform_52 P fX (nI t) (nI n) f_innermost f_draftLength f_rulesGiven f_wrongToken f_wantedCount f_inCondition (nI d) cu 0 (nI oc) (nI st) a_names a_values a_parents a_kinds a_operands a_priorities a_givenAt a_wanted a_axes a_passing a_ends a_openers a_table Rs a_matched LL LN LP LS LB LR ou) :
    ∀ (t fX e st oc : Nat) (cu row pc node pos size : Int32) (Rs LL LN LP LS LB LR ou BL BR BS BE BRow BPc BNode BPos BSz : Nat → Int32), N < fX → (150 - st) * 64 + ph LR (e + 1) ≤ N + 1 → t + N + 1 ≤ 20000 → e < 12 → st ≤ 150 → oc ≤ t → (∀ j, j < e + 1 → tl K len b_there n LL LN LP LS LB LR BL BR BS BE BRow BPc BNode BPos BSz j) → (∀ post : Int32 → SY → Prop, (∃ f, ∀ (gl : Int32) (wt bl bw : Nat → Int32), wY_transform_40 post f (nI n) g_inner g_rules g_place gl (nI (e + 1)) (-1) pc node pos size 0 (nI oc) (nI st) a_names a_parents a_values b_kind b_with b_count b_bodyAt a_priorities b_given b_there b_wanted wt bw bl BL BR BS BE BRow BPc BNode BPos BSz ou) → Z post) →
      wpX_advance (fun u => match u with | (f_nodeCount_1, f_innermost_1, f_draftLength_1, f_rulesGiven_1, f_wrongToken_1, f_wantedCount_1, f_inCondition_1, f_depth_1, f_cursor_1, f_outcome_1, f_outputCount_1, f_stepsTaken_1, a_names_1, a_values_1, a_parents_1, a_kinds_1, a_operands_1, a_priorities_1, a_givenAt_1, a_wanted_1, a_axes_1, a_passing_1, a_ends_1, a_openers_1, a_table_1, a_results_1, a_matched_1, a_listLeft_1, a_listNode_1, a_listPosition_1, a_listSize_1, a_listBody_1, a_listReturn_1, a_outputs_1) => ∀ x1 : Int32, x1 = nI t + 1 → wX_transform_52 P fX x1 f_nodeCount_1 f_innermost_1 f_draftLength_1 f_rulesGiven_1 f_wrongToken_1 f_wantedCount_1 f_inCondition_1 f_depth_1 f_cursor_1 f_outcome_1 f_outputCount_1 f_stepsTaken_1 a_names_1 a_values_1 a_parents_1 a_kinds_1 a_operands_1 a_priorities_1 a_givenAt_1 a_wanted_1 a_axes_1 a_passing_1 a_ends_1 a_openers_1 a_table_1 a_results_1 a_matched_1 a_listLeft_1 a_listNode_1 a_listPosition_1 a_listSize_1 a_listBody_1 a_listReturn_1 a_outputs_1) (nI n, f_innermost, f_draftLength, f_rulesGiven, f_wrongToken, f_wantedCount, f_inCondition, nI (e + 1), cu, 0, nI oc, nI st, a_names, a_values, a_parents, a_kinds, a_operands, a_priorities, a_givenAt, a_wanted, a_axes, a_passing, a_ends, a_openers, a_table, Rs, a_matched, LL, LN, LP, LS, LB, LR, ou) := by
  intro t fX e st oc cu row pc node pos size Rs LL LN LP LS LB LR ou BL BR BS BE BRow BPc BNode BPos BSz hfX hph htN he hst hoc hl H
  have hn := T.1
  have le := hl e (by omega)
  obtain ⟨l1, l2, l3, l4, l5, l6⟩ := le
  have low : ∀ j, j < e → tl K len b_there n LL LN LP LS LB LR BL BR BS BE BRow BPc BNode BPos BSz j := fun j hj => hl j (by omega)
  have dne : ∀ {d : Nat}, 0 < d → d ≤ 12 → ¬ nI d ≤ 0 := fun h1 h2 => nI_nle h1 (by omega)
  rw [ph] at hph
  -- one turn of the reference, idle
  have yidle : ∀ {post : Int32 → SY → Prop} {f : Nat} (gl : Int32) (wt bl bw : Nat → Int32), wpY_nextNode (fun u => match u with | (g_nodes_1, g_inner_1, g_rules_1, g_place_1, g_listed_1, g_depth_1, g_row_1, g_pc_1, g_node_1, g_position_1, g_size_1, g_fault_1, g_put_1, g_steps_1, b_name_1, b_parent_1, b_value_1, b_kind_1, b_with_1, b_count_1, b_bodyAt_1, b_priority_1, b_given_1, b_there_1, b_wanted_1, b_waiting_1, b_within_1, b_list_1, b_left_1, b_reached_1, b_sizes_1, b_each_1, b_backRow_1, b_backPc_1, b_backNode_1, b_backPosition_1, b_backSize_1, b_output_1) => wY_transform_40 post f g_nodes_1 g_inner_1 g_rules_1 g_place_1 g_listed_1 g_depth_1 g_row_1 g_pc_1 g_node_1 g_position_1 g_size_1 g_fault_1 g_put_1 g_steps_1 b_name_1 b_parent_1 b_value_1 b_kind_1 b_with_1 b_count_1 b_bodyAt_1 b_priority_1 b_given_1 b_there_1 b_wanted_1 b_waiting_1 b_within_1 b_list_1 b_left_1 b_reached_1 b_sizes_1 b_each_1 b_backRow_1 b_backPc_1 b_backNode_1 b_backPosition_1 b_backSize_1 b_output_1) (nI n, g_inner, g_rules, g_place, gl, nI (e + 1), -1, pc, node, pos, size, 0, nI oc, nI st, a_names, a_parents, a_values, b_kind, b_with, b_count, b_bodyAt, a_priorities, b_given, b_there, b_wanted, wt, bw, bl, BL, BR, BS, BE, BRow, BPc, BNode, BPos, BSz, ou) → wY_transform_40 post (f + 1) (nI n) g_inner g_rules g_place gl (nI (e + 1)) (-1) pc node pos size 0 (nI oc) (nI st) a_names a_parents a_values b_kind b_with b_count b_bodyAt a_priorities b_given b_there b_wanted wt bw bl BL BR BS BE BRow BPc BNode BPos BSz ou := fun gl wt bl bw h => br_f (dne (by omega) (by omega)) (br_t rfl (br_f (by decide) h))
  by_cases z0 : LL e = 0
  · refine xt_adv0 he z0 (nm_r (nI_1 t) (ih (t + 1) fX e st oc (LR e) (BRow e) (BPc e) (BNode e) (BPos e) (BSz e) Rs LL LN LP LS LB LR ou BL BR BS BE BRow BPc BNode BPos BSz hfX (by omega) (by omega) (by omega) hst (by omega) low ?_ fun post ⟨f, hf⟩ => H post ⟨f + 1, fun gl wt bl bw => yidle gl wt bl bw (yt_next0 he (by rw [l1]; exact z0) (hf gl wt bl bw))⟩))
    rcases l6 with z | ⟨r, c, p, q1, q2, q3, i, a, ei, ha, q4, q5, q6, q7⟩
    · exact Or.inl z
    · exact Or.inr ⟨r, c, p, q1, q2, q3, i, a, ei, ha, q4, q5, q6, q7⟩
  have z0' : ¬ BL e = 0 := by rw [l1]; exact z0
  by_cases s150 : st = 150
  · subst s150
    refine xt_advL he z0 (nm_r (nI_1 t) (tf_stop (row := -1) (pc := pc) (node := node) (pos := pos) (size := size) (BL := BL) (BR := BR) (BS := BS) (BE := BE) (BRow := BRow) (BPc := BPc) (BNode := BNode) (BPos := BPos) (BSz := BSz) hP (by decide) (by omega) (by omega) (by omega) (by omega) fun post ⟨f, hf⟩ => H post ⟨f + 1, fun gl wt bl bw => yidle gl wt bl bw (yt_nextL he z0' (hf gl wt bl bw))⟩))
  have st150 : st < 150 := by omega
  obtain ⟨f, hf, hlow⟩ := me_ex hn l2 z0
  have hlow' : me_low (BL e) f := by rw [l1]; exact hlow
  -- what is left, the same on both sides
  have eLeft : BL e &&& (((1 : Int32) <<< (nI f &&& 31)) ^^^ (-1)) = LL e &&& (LL e - 1) := by rw [l1]; exact (me_less hlow).symm
  have lv : ∀ j, j < e + 1 → tl K len b_there n (upd LL e (LL e &&& (LL e - 1))) (upd LN e (nI f)) (upd LP e (LP e + 1)) LS LB LR (upd BL e (BL e &&& (((1 : Int32) <<< (nI f &&& 31)) ^^^ (-1)))) (upd BR e (BR e + 1)) BS BE BRow BPc BNode BPos BSz j := by
    intro j hj
    rcases Nat.lt_or_ge j e with z | z
    · exact tl_lt (m := e) z (fun i hi => pk_un (by omega)) (fun i hi => pk_un (by omega)) (fun i hi => pk_un (by omega)) (fun _ _ => rfl) (fun _ _ => rfl) (fun _ _ => rfl) (fun i hi => pk_un (by omega)) (fun i hi => pk_un (by omega)) (fun _ _ => rfl) (fun _ _ => rfl) (fun _ _ => rfl) (fun _ _ => rfl) (fun _ _ => rfl) (fun _ _ => rfl) (fun _ _ => rfl) (low j z)
    · have ej : j = e := by omega
      subst ej
      refine ⟨by rw [pk_us, pk_us]; exact eLeft, fun i hi hb => ?_, by rw [pk_us, pk_us, l3], l4, l5, ?_⟩
      · rw [pk_us, b_and, Bool.and_eq_true] at hb
        exact l2 i hi hb.1
      · rcases l6 with z | ⟨r, c, p, q1, q2, q3, i, a, ei, ha, q4, q5, q6, q7⟩
        · exact Or.inl z
        · exact Or.inr ⟨r, c, p, q1, q2, q3, i, a, ei, ha, by rw [pk_un (by omega)]; exact q4, q5, by rw [pk_un (by omega)]; exact q6, q7⟩
  obtain ⟨m0, m1⟩ := rl_M hf hR hS hM
  have hH : ∀ r, r < 6 → yr_H b_kind b_with b_bodyAt b_there a_values a_parents a_names K (fun r x => a_operands (32 * r + x)) len n (fun r x a => a_table ((32 * r + x) * 24 + a)) r := fun r hr => rl_yH hr (hS r (by omega)) (hR r hr) hD
  have hG := rl_G hk hR
  have hch : ∀ i, i < 32 → bt (a_axes (24 + f)) i = (decide (i < n) && decide (a_parents i = nI f)) := fun i hi => by
    have := hA 1 f i (by omega) hf hi
    rw [show 1 * 24 + f = 24 + f by omega, tr_on1] at this
    exact this
  refine xt_advN he z0 st150 hlow (fun hB => ?_) (fun hB => ?_)
  · -- a body of EACH
    rcases l5 with ⟨z, _⟩ | ⟨r, c, p, q1, q2, q3⟩
    · exact absurd z hB
    · have c30 : c ≤ 30 := by
        have := p.2.2.2
        rcases p.2.2.1 with y | y <;> omega
      have r6 := p.1
      have rr := rm_c (r := r) (c := c) r6 c30
      have hE : ¬ BE e < 0 := by rw [q2]; exact nI_pos (by omega)
      refine nm_r (nI_1 t) (ih (t + 1) fX (e + 1) (st + 1) oc (LB e) (BRow e) (BE e) (nI f) (BR e + 1) (BS e) Rs _ _ _ LS LB LR ou _ _ BS BE BRow BPc BNode BPos BSz hfX ?_ (by omega) (by omega) (by omega) (by omega) lv ?_ fun post ⟨g, hg⟩ => H post ⟨g + 1, fun gl wt bl bw => yidle gl wt bl bw (yt_nextN he z0' st150 hlow' (fun _ => hg gl wt bl bw) (fun z => absurd z hE))⟩)
      · rw [ph, q1, rr]; omega
      · exact Or.inr ⟨r, c, p, q1, q3, q2, e, f, rfl, hf, pk_us, rfl, by rw [pk_us, l3], l4⟩
  · -- rules
    have hE : BE e < 0 := by
      rcases l5 with ⟨_, z⟩ | ⟨r, c, p, q1, _⟩
      · rw [z]; decide
      · rw [hB] at q1
        exact absurd (q1 ▸ tr_m1) (nI_pos (by have := p.1; have := p.2.2.2; rcases p.2.2.1 with y | y <;> omega))
    cases hbs : bs (fun r => bt (a_matched r) f) a_priorities a_givenAt 6 0 none with
    | some r =>
      have bm := bs_m (d := 6) (r := 0) (b := none) (fun y hy => by cases hy) hbs
      have r6 : r < 6 := by omega
      have t1 : b_there r = 1 := by
        rcases hR r r6 with ⟨z, _⟩ | ⟨z, _⟩
        · have := m0 r r6 z
          rw [this] at bm
          exact nomatch bm.1
        · exact z
      obtain ⟨W, k15, lpos, bp, hcnt, hba⟩ : gm_W (K r) (len r) ∧ K r 0 = 15 ∧ 0 < len r ∧ gm_bp (K r) (len r) (gm_e (K r) 0) ∧ b_count r = nI (len r) ∧ b_bodyAt r = nI (gm_e (K r) 0) := by
        rcases hR r r6 with ⟨z, _⟩ | ⟨_, z1, z2, z3, z4, z5, z6, _⟩
        · rw [t1] at z; exact absurd z (by decide)
        · exact ⟨z1, z2, z3, z4, z5, z6⟩
      have e30 : gm_e (K r) 0 ≤ 30 := by have := W.1; have := (W.2.2 0 lpos).2.1; omega
      have hends : a_ends (32 * r) = nI (32 * r + gm_e (K r) 0) := (hD r 0 (by omega) (by omega) (by omega)).1
      have rr := rm_c (r := r) (c := gm_e (K r) 0) r6 e30
      refine xt_handleR (by omega) r6 hbs hends (nm_r (nI_1 t) (ih (t + 1) fX (e + 1) (st + 1) oc _ (nI r) (nI (30 * r + gm_e (K r) 0)) (nI f) (BR e + 1) (BS e) Rs _ _ _ LS LB LR ou _ _ BS BE BRow BPc BNode BPos BSz hfX ?_ (by omega) (by omega) (by omega) (by omega) lv ?_ fun post ⟨g, hg⟩ => H post ⟨g + 1, fun gl wt bl bw => yidle gl wt bl bw (yt_nextN he z0' st150 hlow' (fun z => absurd hE z) (fun _ => ?_))⟩))
      · rw [ph, rr]; omega
      · exact Or.inr ⟨r, gm_e (K r) 0, ⟨r6, t1, bp, W.1⟩, rfl, rfl, rfl, e, f, rfl, hf, pk_us, rfl, by rw [pk_us, l3], l4⟩
      · have ce : (nI e).toNatClampNeg = e := nI_clamp (by omega)
        have ve : vp_in (nI e) 13 := vp_in_nI (by omega) (by omega)
        exact yt_handleR (M := fun r => bt (a_matched r) f) T hf hH m0 m1 hG hbs r6 hba e30 fun gl' bl' bw' => br_t (nI_pos' (by omega)) ⟨ve, nm_r (e' := BR e + 1) (by rw [ce, pk_us]) ⟨ve, nm_r (e' := BS e) (by rw [ce]) (hg gl' wt bl' bw')⟩⟩
    | none =>
      by_cases hc0 : a_axes (24 + f) = 0
      · refine xt_handleV (by omega) (by omega) hbs hc0 (nm_r (nI_1 t) (ih (t + 1) fX (e + 1) (st + 1) (oc + 1) (nI 223) (-1) pc node pos size Rs _ _ _ LS LB LR _ _ _ BS BE BRow BPc BNode BPos BSz hfX ?_ (by omega) (by omega) (by omega) (by omega) lv (Or.inl ⟨rfl, rfl⟩) fun post ⟨g, hg⟩ => H post ⟨g + 1, fun gl wt bl bw => yidle gl wt bl bw (yt_nextN he z0' st150 hlow' (fun z => absurd hE z) (fun _ => ?_))⟩))
        · rw [ph, rm_i]; omega
        · exact yt_handleN (M := fun r => bt (a_matched r) f) T hf hH m0 m1 hG hbs hch (fun _ gl' bl' bw' => yt_put (by omega) (br_f (by decide) (hg gl' wt bl' bw'))) (fun z => absurd hc0 z)
      · have hcb : ∀ i, i < 32 → bt (a_axes (24 + f)) i = true → i < n := fun i hi z => by
          rw [hch i hi, Bool.and_eq_true, decide_eq_true_eq] at z; exact z.1
        refine xt_handleC (by omega) hbs hc0 ?_
        rcases Nat.lt_or_ge (e + 1) 12 with d12 | d12
        · refine xt_beginT d12 (nm_r (nI_1 t) (ih (t + 1) fX (e + 2) (st + 1) oc (nI 223) (-1) pc node pos size Rs _ _ _ _ _ _ ou (upd (upd BL e (BL e &&& (((1 : Int32) <<< (nI f &&& 31)) ^^^ (-1)))) (e + 1) (a_axes (24 + f))) (upd (upd BR e (BR e + 1)) (e + 1) 0) (upd BS (e + 1) (nI (nu_cnt (a_axes (24 + f)) n))) (upd BE (e + 1) (-1)) (upd BRow (e + 1) (-1)) (upd BPc (e + 1) pc) (upd BNode (e + 1) node) (upd BPos (e + 1) pos) (upd BSz (e + 1) size) hfX ?_ (by omega) (by omega) (by omega) (by omega) ?_ (Or.inl ⟨rfl, rfl⟩) fun post ⟨g, hg⟩ => H post ⟨g + 1, fun gl wt bl bw => yidle gl wt bl bw (yt_nextN he z0' st150 hlow' (fun z => absurd hE z) (fun _ => ?_))⟩))
          rotate_left 2
          · exact yt_handleN (M := fun r => bt (a_matched r) f) T hf hH m0 m1 hG hbs hch (fun z => absurd z hc0) (fun _ gl' bl' bw' => yt_beginT hn d12 (br_f (by decide) (hg gl' wt bl' bw')))
          · rw [ph, pk_us, ph_c (d := e + 1) (L := LR) (fun i hi => pk_un (by omega)), ph, show rm 223 = 0 from rm_i, rm_i]; omega
          · intro j hj
            rcases Nat.lt_or_ge j (e + 1) with z | z
            · exact tl_lt (m := e + 1) z (fun i hi => pk_un (by omega)) (fun _ _ => rfl) (fun i hi => pk_un (by omega)) (fun i hi => pk_un (by omega)) (fun i hi => pk_un (by omega)) (fun i hi => pk_un (by omega)) (fun i hi => pk_un (by omega)) (fun i hi => pk_un (by omega)) (fun i hi => pk_un (by omega)) (fun i hi => pk_un (by omega)) (fun i hi => pk_un (by omega)) (fun i hi => pk_un (by omega)) (fun i hi => pk_un (by omega)) (fun i hi => pk_un (by omega)) (fun i hi => pk_un (by omega)) (lv j z)
            · have ej : j = e + 1 := by omega
              subst ej
              refine ⟨by rw [pk_us, pk_us], fun i hi z => ?_, by rw [pk_us, pk_us], by rw [pk_us, pk_us, me_24 hn hcb], Or.inl ⟨pk_us, pk_us⟩, Or.inl ⟨pk_us, pk_us⟩⟩
              rw [pk_us] at z
              exact hcb i hi z
        · refine xt_beginF (by omega) (nm_r (nI_1 t) (tf_stop (row := -1) (pc := pc) (node := node) (pos := pos) (size := size) (BL := upd BL e (BL e &&& (((1 : Int32) <<< (nI f &&& 31)) ^^^ (-1)))) (BR := upd BR e (BR e + 1)) (BS := BS) (BE := BE) (BRow := BRow) (BPc := BPc) (BNode := BNode) (BPos := BPos) (BSz := BSz) hP (by decide) (by omega) (by omega) (by omega) (by omega) fun post ⟨g, hg⟩ => H post ⟨g + 1, fun gl wt bl bw => yidle gl wt bl bw (yt_nextN he z0' st150 hlow' (fun z => absurd hE z) (fun _ => ?_))⟩))
          exact yt_handleN (M := fun r => bt (a_matched r) f) T hf hH m0 m1 hG hbs hch (fun z => absurd z hc0) (fun _ gl' bl' bw' => yt_beginF (by omega) (br_f (by decide) (hg gl' wt bl' bw')))
end
section
/-! transform: a token's turn -/
variable {f_nodeCount f_innermost f_draftLength f_rulesGiven f_wrongToken f_wantedCount f_inCondition f_depth f_cursor f_outcome f_outputCount f_stepsTaken : Int32} {a_names a_values a_parents a_kinds a_operands a_priorities a_givenAt a_wanted a_axes a_passing a_ends a_openers a_table a_results a_matched a_listLeft a_listNode a_listPosition a_listSize a_listBody a_listReturn a_outputs : Nat → Int32}
variable {g_nodes g_inner g_rules g_place g_listed g_depth g_row g_pc g_node g_position g_size g_fault g_put g_steps : Int32} {b_name b_parent b_value b_kind b_with b_count b_bodyAt b_priority b_given b_there b_wanted b_waiting b_within b_list b_left b_reached b_sizes b_each b_backRow b_backPc b_backNode b_backPosition b_backSize b_output : Nat → Int32}
variable {n k : Nat} {K : Nat → Nat → Nat} {len : Nat → Nat} {P : Int32 → SX → Prop} {Z : (Int32 → SY → Prop) → Prop}
theorem tf_tok (T : tr_T a_parents n) (hS : ∀ r, r < 7 → rl_S a_kinds a_operands b_kind b_with K len r) (hR : ∀ r, r < 6 → rl_R k K len a_givenAt b_count b_bodyAt b_given b_there r) (hk : k < 10000) (hA : xs_ax a_axes a_parents n) (hD : xt_D a_operands a_values a_parents a_names K len n a_ends a_openers a_table 0 192) (hM : ∀ r, r < 6 → ∀ i, i < n → (bt (a_matched r) i = true ↔ K r 0 = 15 ∧ ∃ a, a < n ∧ bt (a_table (32 * r * 24 + a)) i = true ∧ (i = a ∨ tr_a a_parents a i = true))) (hP : ∀ (rr : Int32) (d oc st : Nat) (cu row pc node pos size : Int32) (Rs LL LN LP LS LB LR ou BL BR BS BE BRow BPc BNode BPos BSz : Nat → Int32), (∀ post : Int32 → SY → Prop, (∀ (gl : Int32) (wt bl bw : Nat → Int32), post rr (nI n, g_inner, g_rules, g_place, gl, nI d, row, pc, node, pos, size, rr, nI oc, nI st, a_names, a_parents, a_values, b_kind, b_with, b_count, b_bodyAt, a_priorities, b_given, b_there, b_wanted, wt, bw, bl, BL, BR, BS, BE, BRow, BPc, BNode, BPos, BSz, ou)) → Z post) → P rr (nI n, f_innermost, f_draftLength, f_rulesGiven, f_wrongToken, f_wantedCount, f_inCondition, nI d, cu, rr, nI oc, nI st, a_names, a_values, a_parents, a_kinds, a_operands, a_priorities, a_givenAt, a_wanted, a_axes, a_passing, a_ends, a_openers, a_table, Rs, a_matched, LL, LN, LP, LS, LB, LR, ou)) {N : Nat} (ih : ∀ (t fX d st oc : Nat) (cu row pc node pos size : Int32) (Rs LL LN LP LS LB LR ou BL BR BS BE BRow BPc BNode BPos BSz : Nat → Int32), N < fX → (150 - st) * 64 + ph LR d + 2 * rm cu ≤ N → t + N ≤ 20000 → d ≤ 12 → st ≤ 150 → oc ≤ t → (∀ j, j < d → tl K len b_there n LL LN LP LS LB LR BL BR BS BE BRow BPc BNode BPos BSz j) → tu K len b_there n LN LP LS d cu row pc node pos size → (∀ post : Int32 → SY → Prop, (∃ f, ∀ (gl : Int32) (wt bl bw : Nat → Int32), wY_transform_40 post f (nI n) g_inner g_rules g_place gl (nI d) row pc node pos size 0 (nI oc) (nI st) a_names a_parents a_values b_kind b_with b_count b_bodyAt a_priorities b_given b_there b_wanted wt bw bl BL BR BS BE BRow BPc BNode BPos BSz ou) → Z post) → wX_transform_52 P fX (nI t) (nI n) f_innermost f_draftLength f_rulesGiven f_wrongToken f_wantedCount f_inCondition (nI d) cu 0 (nI oc) (nI st) a_names a_values a_parents a_kinds a_operands a_priorities a_givenAt a_wanted a_axes a_passing a_ends a_openers a_table Rs a_matched LL LN LP LS LB LR ou) :
    ∀ (t fX e st oc r c a : Nat) (Rs LL LN LP LS LB LR ou BL BR BS BE BRow BPc BNode BPos BSz : Nat → Int32), N < fX → r < 6 → b_there r = 1 → c < len r → 20 ≤ K r c → K r c ≤ 26 → a < n → LN e = nI a → (150 - st) * 64 + ph LR (e + 1) + 2 * (31 - c) ≤ N + 1 → t + N + 1 ≤ 20000 → e < 12 → st ≤ 150 → oc ≤ t → (∀ j, j < e + 1 → tl K len b_there n LL LN LP LS LB LR BL BR BS BE BRow BPc BNode BPos BSz j) →
      (∀ post : Int32 → SY → Prop, (∃ f, ∀ (gl : Int32) (wt bl bw : Nat → Int32), wY_transform_40 post f (nI n) g_inner g_rules g_place gl (nI (e + 1)) (nI r) (nI (30 * r + c)) (nI a) (LP e) (LS e) 0 (nI oc) (nI st) a_names a_parents a_values b_kind b_with b_count b_bodyAt a_priorities b_given b_there b_wanted wt bw bl BL BR BS BE BRow BPc BNode BPos BSz ou) → Z post) →
      wpX_execute (fun u => match u with | (f_nodeCount_1, f_innermost_1, f_draftLength_1, f_rulesGiven_1, f_wrongToken_1, f_wantedCount_1, f_inCondition_1, f_depth_1, f_cursor_1, f_outcome_1, f_outputCount_1, f_stepsTaken_1, a_names_1, a_values_1, a_parents_1, a_kinds_1, a_operands_1, a_priorities_1, a_givenAt_1, a_wanted_1, a_axes_1, a_passing_1, a_ends_1, a_openers_1, a_table_1, a_results_1, a_matched_1, a_listLeft_1, a_listNode_1, a_listPosition_1, a_listSize_1, a_listBody_1, a_listReturn_1, a_outputs_1) => ∀ x1 : Int32, x1 = nI t + 1 → wX_transform_52 P fX x1 f_nodeCount_1 f_innermost_1 f_draftLength_1 f_rulesGiven_1 f_wrongToken_1 f_wantedCount_1 f_inCondition_1 f_depth_1 f_cursor_1 f_outcome_1 f_outputCount_1 f_stepsTaken_1 a_names_1 a_values_1 a_parents_1 a_kinds_1 a_operands_1 a_priorities_1 a_givenAt_1 a_wanted_1 a_axes_1 a_passing_1 a_ends_1 a_openers_1 a_table_1 a_results_1 a_matched_1 a_listLeft_1 a_listNode_1 a_listPosition_1 a_listSize_1 a_listBody_1 a_listReturn_1 a_outputs_1) (nI n, f_innermost, f_draftLength, f_rulesGiven, f_wrongToken, f_wantedCount, f_inCondition, nI (e + 1), nI (32 * r + c), 0, nI oc, nI st, a_names, a_values, a_parents, a_kinds, a_operands, a_priorities, a_givenAt, a_wanted, a_axes, a_passing, a_ends, a_openers, a_table, Rs, a_matched, LL, LN, LP, LS, LB, LR, ou) := by
  intro t fX e st oc r c a Rs LL LN LP LS LB LR ou BL BR BS BE BRow BPc BNode BPos BSz hfX r6 t1 hcl k20 k26 ha hLN hph htN he hst hoc hl H
  have hn := T.1
  obtain ⟨W, k15, lpos, bp0, hcnt, hba⟩ : gm_W (K r) (len r) ∧ K r 0 = 15 ∧ 0 < len r ∧ gm_bp (K r) (len r) (gm_e (K r) 0) ∧ b_count r = nI (len r) ∧ b_bodyAt r = nI (gm_e (K r) 0) := by
    rcases hR r r6 with ⟨z, _⟩ | ⟨_, z1, z2, z3, z4, z5, z6, _⟩
    · rw [t1] at z; exact absurd z (by decide)
    · exact ⟨z1, z2, z3, z4, z5, z6⟩
  obtain ⟨s1, s2, s3, s4, s5⟩ := hS r (by omega)
  have hov : ∀ x, x < len r → K r x = 15 → ∃ v, v < 72 ∧ a_operands (32 * r + x) = nI v := fun x hx kx => by
    obtain ⟨v, v1, v2, v3⟩ := (s5 x hx).2 kx
    exact ⟨v, v1, v3⟩
  have TE : ∀ x, x < len r → nu_TE (K r) (fun x => a_operands (32 * r + x)) a_values a_parents a_names (len r) n (fun x a => a_table ((32 * r + x) * 24 + a)) x := fun x hx => (hD r x (by omega) (by omega) (by omega)).2.1 hx
  have hE : ∀ x, x < len r → a_ends (32 * r + x) = nI (32 * r + gm_e (K r) x) := fun x hx => (hD r x (by omega) (by omega) (by omega)).1
  have L := W.2.2 c hcl
  have L1 := L.1
  have L2 := L.2.1
  have kx : a_kinds (32 * r + c) = nI (K r c) := s3 c (by omega)
  have ky : b_kind (30 * r + c) = nI (K r c) := (s4 c hcl).1
  have ew : b_with (30 * r + c) = a_operands (32 * r + c) := (s4 c hcl).2
  have dne : ¬ nI (e + 1) ≤ 0 := nI_nle (by omega) (by omega)
  have yrow : ∀ {post : Int32 → SY → Prop} {f : Nat} (gl : Int32) (wt bl bw : Nat → Int32), wpY_execute (fun u => match u with | (g_nodes_1, g_inner_1, g_rules_1, g_place_1, g_listed_1, g_depth_1, g_row_1, g_pc_1, g_node_1, g_position_1, g_size_1, g_fault_1, g_put_1, g_steps_1, b_name_1, b_parent_1, b_value_1, b_kind_1, b_with_1, b_count_1, b_bodyAt_1, b_priority_1, b_given_1, b_there_1, b_wanted_1, b_waiting_1, b_within_1, b_list_1, b_left_1, b_reached_1, b_sizes_1, b_each_1, b_backRow_1, b_backPc_1, b_backNode_1, b_backPosition_1, b_backSize_1, b_output_1) => wY_transform_40 post f g_nodes_1 g_inner_1 g_rules_1 g_place_1 g_listed_1 g_depth_1 g_row_1 g_pc_1 g_node_1 g_position_1 g_size_1 g_fault_1 g_put_1 g_steps_1 b_name_1 b_parent_1 b_value_1 b_kind_1 b_with_1 b_count_1 b_bodyAt_1 b_priority_1 b_given_1 b_there_1 b_wanted_1 b_waiting_1 b_within_1 b_list_1 b_left_1 b_reached_1 b_sizes_1 b_each_1 b_backRow_1 b_backPc_1 b_backNode_1 b_backPosition_1 b_backSize_1 b_output_1) (nI n, g_inner, g_rules, g_place, gl, nI (e + 1), (nI r), (nI (30 * r + c)), (nI a), (LP e), (LS e), 0, nI oc, nI st, a_names, a_parents, a_values, b_kind, b_with, b_count, b_bodyAt, a_priorities, b_given, b_there, b_wanted, wt, bw, bl, BL, BR, BS, BE, BRow, BPc, BNode, BPos, BSz, ou) → wY_transform_40 post (f + 1) (nI n) g_inner g_rules g_place gl (nI (e + 1)) (nI r) (nI (30 * r + c)) (nI a) (LP e) (LS e) 0 (nI oc) (nI st) a_names a_parents a_values b_kind b_with b_count b_bodyAt a_priorities b_given b_there b_wanted wt bw bl BL BR BS BE BRow BPc BNode BPos BSz ou := fun gl wt bl bw h => br_f dne (br_t rfl (br_t (nI_pos' (by omega)) h))
  -- going on at another cell of the slot
  have at' : ∀ c', c < c' → gm_bp (K r) (len r) c' → (150 - st) * 64 + ph LR (e + 1) + 2 * rm (nI (32 * r + c')) ≤ N ∧ tu K len b_there n LN LP LS (e + 1) (nI (32 * r + c')) (nI r) (nI (30 * r + c')) (nI a) (LP e) (LS e) := by
    intro c' hcc bp
    have c30 : c' ≤ 30 := by rcases bp with y | y <;> omega
    refine ⟨?_, Or.inr ⟨r, c', ⟨r6, t1, bp, s1⟩, rfl, rfl, rfl, e, a, rfl, ha, hLN, rfl, rfl, rfl⟩⟩
    rw [rm_c r6 c30]
    omega
  have idle : (150 - st) * 64 + ph LR (e + 1) + 2 * rm (nI 223) ≤ N := by rw [rm_i]; omega
  have o30 : oc < 2 ^ 30 := by omega
  rcases (show K r c = 20 ∨ K r c = 21 ∨ K r c = 22 ∨ K r c = 23 ∨ K r c = 24 ∨ K r c = 25 ∨ K r c = 26 by omega) with kk | kk | kk | kk | kk | kk | kk
  · obtain ⟨q1, q2⟩ := L.2.2.2.2.2.2.2.2.2.2.2.1 kk
    obtain ⟨f1, f2⟩ := at' (c + 1) (by omega) q2
    rw [kk] at kx ky
    exact xe_20 he (by omega) o30 kx (nm_r (nI_1 t) (ih (t + 1) fX (e + 1) st (oc + 1) _ _ _ _ _ _ Rs LL LN LP LS LB LR _ BL BR BS BE BRow BPc BNode BPos BSz hfX f1 (by omega) (by omega) hst (by omega) hl f2 fun post ⟨f, hf⟩ => H post ⟨f + 1, fun gl wt bl bw => yrow gl wt bl bw (ye_20 r6 s1 hcl o30 hcnt ky (by rw [ew]; exact hf gl wt bl bw))⟩))
  · obtain ⟨q1, q2, q3⟩ := L.2.2.2.2.2.2.2.2.2.2.2.2.1 kk
    obtain ⟨f1, f2⟩ := at' (c + 1) (by omega) q2
    rw [kk] at kx ky
    exact xe_21 he (by omega) o30 kx (nm_r (nI_1 t) (ih (t + 1) fX (e + 1) st (oc + 1) _ _ _ _ _ _ Rs LL LN LP LS LB LR _ BL BR BS BE BRow BPc BNode BPos BSz hfX f1 (by omega) (by omega) hst (by omega) hl f2 fun post ⟨f, hf⟩ => H post ⟨f + 1, fun gl wt bl bw => yrow gl wt bl bw (ye_21 r6 s1 hcl o30 hcnt ky (by rw [ew]; exact hf gl wt bl bw))⟩))
  · obtain ⟨p1, p2, p3, p4⟩ := L.2.2.2.2.2.2.2.2.2.2.2.2.2.1 kk
    obtain ⟨f1, f2⟩ := at' (gm_e (K r) c) (by omega) p4
    have kx' := kx
    have ky' := ky
    rw [kk] at kx' ky'
    refine xe_22 he (by omega) kx' (xt_num (K := K r) (len := len r) (b := 32 * r) (c := c) (nd := a) o30 he W (by omega) s3 (by omega) p1 hE (by omega) hLN fun res => ⟨fun _ => ?_, fun z => absurd kk z, fun z => absurd kk z⟩)
    refine nm_r (nI_1 t) (ih (t + 1) fX (e + 1) st (oc + 1) _ _ _ _ _ _ res LL LN LP LS LB LR _ BL BR BS BE BRow BPc BNode BPos BSz hfX f1 (by omega) (by omega) hst (by omega) hl f2 fun post ⟨f, hf⟩ => H post ⟨f + 1, fun gl wt bl bw => yrow gl wt bl bw (ye_pre r6 s1 hcl hcnt ky' (br_f (by decide) (br_f (by decide) (br_f (by decide) (br_t rfl ?_)))))⟩)
    have := ye_118 (post := (fun u => match u with | (g_nodes_1, g_inner_1, g_rules_1, g_place_1, g_listed_1, g_depth_1, g_row_1, g_pc_1, g_node_1, g_position_1, g_size_1, g_fault_1, g_put_1, g_steps_1, b_name_1, b_parent_1, b_value_1, b_kind_1, b_with_1, b_count_1, b_bodyAt_1, b_priority_1, b_given_1, b_there_1, b_wanted_1, b_waiting_1, b_within_1, b_list_1, b_left_1, b_reached_1, b_sizes_1, b_each_1, b_backRow_1, b_backPc_1, b_backNode_1, b_backPosition_1, b_backSize_1, b_output_1) => wY_transform_40 post f g_nodes_1 g_inner_1 g_rules_1 g_place_1 g_listed_1 g_depth_1 g_row_1 g_pc_1 g_node_1 g_position_1 g_size_1 g_fault_1 g_put_1 g_steps_1 b_name_1 b_parent_1 b_value_1 b_kind_1 b_with_1 b_count_1 b_bodyAt_1 b_priority_1 b_given_1 b_there_1 b_wanted_1 b_waiting_1 b_within_1 b_list_1 b_left_1 b_reached_1 b_sizes_1 b_each_1 b_backRow_1 b_backPc_1 b_backNode_1 b_backPosition_1 b_backSize_1 b_output_1)) (K := K r) (O := fun x => a_operands (32 * r + x)) (r := r) (l := len r) (c := c) (oc := oc) (n := n) (nd := a) (tb := fun x a => a_table ((32 * r + x) * 24 + a)) (g_inner := g_inner) (g_rules := g_rules) (g_place := g_place) (g_listed := gl) (g_depth := nI (e + 1)) (g_position := LP e) (g_size := LS e) (g_fault := 0) (g_steps := nI st) (b_name := a_names) (b_parent := a_parents) (b_value := a_values) (b_priority := a_priorities) (b_wanted := b_wanted) (b_waiting := wt) (b_within := bw) (b_list := bl) (b_left := BL) (b_reached := BR) (b_sizes := BS) (b_each := BE) (b_backRow := BRow) (b_backPc := BPc) (b_backNode := BNode) (b_backPosition := BPos) (b_backSize := BSz) (b_output := ou) (b_count := b_count) (b_bodyAt := b_bodyAt) (b_given := b_given) (b_there := b_there) W s4 r6 hcl o30 T hov TE (Or.inl kk) ha (fun _ gl' wt' bl' bw' => hf gl' wt' bl' bw') (fun z => absurd z (by omega)) (fun z => absurd z (by omega))
    rw [kk] at this
    exact this
  · obtain ⟨p1, p2, p3, p4⟩ := L.2.2.2.2.2.2.2.2.2.2.2.2.2.2.1 kk
    rw [kk] at kx
    have hbit : ∀ i, i < 32 → bt (a_table ((32 * r + (c + 1)) * 24 + a)) i = true → i < n := fun i hi z => nu_TEn' W 0 (fun x _ hx => TE x hx) (len r - (c + 1)) (c + 1) (by omega) (by omega) p1 a ha i hi z
    have c30 : gm_e (K r) c ≤ 30 := by omega
    refine xe_23 he (by omega) (by omega) hLN kx ?_
    rw [hE c hcl, show 32 * r + c + 1 = 32 * r + (c + 1) from rfl]
    rcases Nat.lt_or_ge (e + 1) 12 with d12 | d12
    · refine xt_beginT d12 (nm_r (nI_1 t) (ih (t + 1) fX (e + 2) st oc (nI 223) (-1) (nI (30 * r + gm_e (K r) c)) (nI a) (LP e) (LS e) Rs _ LN _ _ _ _ ou (upd BL (e + 1) (a_table ((32 * r + (c + 1)) * 24 + a))) (upd BR (e + 1) 0) (upd BS (e + 1) (nI (nu_cnt (a_table ((32 * r + (c + 1)) * 24 + a)) n))) (upd BE (e + 1) (if K r c = 25 then nI (30 * r + gm_e (K r) (c + 1)) else -1)) (upd BRow (e + 1) (nI r)) (upd BPc (e + 1) (nI (30 * r + gm_e (K r) c))) (upd BNode (e + 1) (nI a)) (upd BPos (e + 1) (LP e)) (upd BSz (e + 1) (LS e)) hfX ?_ (by omega) (by omega) hst (by omega) ?_ (Or.inl ⟨rfl, rfl⟩) fun post ⟨f, hf⟩ => H post ⟨f + 1, fun gl wt bl bw => yrow gl wt bl bw (ye_path (tb := fun x a => a_table ((32 * r + x) * 24 + a)) W s4 r6 hcl hcnt T hov TE (Or.inl kk) ha (by omega) (fun _ gl' bl' bw' => hf gl' wt bl' bw') (fun z => absurd z (by omega)))⟩))
      · rw [ph, pk_us, ph_c (d := e + 1) (L := LR) (fun i hi => pk_un (by omega)), rm_c r6 c30, rm_i]; omega
      · intro j hj
        rcases Nat.lt_or_ge j (e + 1) with z | z
        · exact tl_lt (m := e + 1) z (fun i hi => pk_un (by omega)) (fun _ _ => rfl) (fun i hi => pk_un (by omega)) (fun i hi => pk_un (by omega)) (fun i hi => pk_un (by omega)) (fun i hi => pk_un (by omega)) (fun i hi => pk_un (by omega)) (fun i hi => pk_un (by omega)) (fun i hi => pk_un (by omega)) (fun i hi => pk_un (by omega)) (fun i hi => pk_un (by omega)) (fun i hi => pk_un (by omega)) (fun i hi => pk_un (by omega)) (fun i hi => pk_un (by omega)) (fun i hi => pk_un (by omega)) (hl j z)
        · have ej : j = e + 1 := by omega
          subst ej
          refine ⟨by rw [pk_us, pk_us], fun i hi z => ?_, by rw [pk_us, pk_us], by rw [pk_us, pk_us, me_24 hn hbit], Or.inl ⟨pk_us, by rw [pk_us, if_neg (by omega)]⟩, Or.inr ⟨r, gm_e (K r) c, ⟨r6, t1, p4, s1⟩, pk_us, pk_us, pk_us, e, a, rfl, ha, hLN, pk_us, by rw [pk_us, pk_un (by omega)], by rw [pk_us, pk_un (by omega)]⟩⟩
          rw [pk_us] at z
          exact hbit i hi z
    · refine xt_beginF (by omega) (nm_r (nI_1 t) (tf_stop (row := nI r) (pc := nI (30 * r + gm_e (K r) c)) (node := nI a) (pos := LP e) (size := LS e) (BL := BL) (BR := BR) (BS := BS) (BE := BE) (BRow := BRow) (BPc := BPc) (BNode := BNode) (BPos := BPos) (BSz := BSz) hP (by decide) (by omega) (by omega) (by omega) (by omega) fun post ⟨f, hf⟩ => H post ⟨f + 1, fun gl wt bl bw => yrow gl wt bl bw (ye_path (tb := fun x a => a_table ((32 * r + x) * 24 + a)) W s4 r6 hcl hcnt T hov TE (Or.inl kk) ha (by omega) (fun z => absurd z (by omega)) (fun _ gl' bl' bw' => hf gl' wt bl' bw'))⟩))
  · obtain ⟨p1, p2, p3⟩ := L.2.2.2.2.2.2.2.2.2.2.2.2.2.2.2.1 kk
    obtain ⟨g1, g2, g3, g4⟩ := p3
    obtain ⟨f1, f2⟩ := at' (gm_e (K r) c) (by omega) g3
    obtain ⟨h1, h2⟩ := at' (gm_e (K r) (c + 1)) (by omega) g2
    have kx' := kx
    have ky' := ky
    rw [kk] at kx' ky'
    have Y : ∀ {post : Int32 → SY → Prop} {f : Nat} (gl : Int32) (wt bl bw : Nat → Int32), (nu_n (K r) (fun x => a_operands (32 * r + x)) a_values (fun x a => a_table ((32 * r + x) * 24 + a)) a (LP e) (LS e) (c + 1) = 0 → ∀ (gl : Int32) (wt bl bw : Nat → Int32), wY_transform_40 post f (nI n) g_inner g_rules g_place gl (nI (e + 1)) (nI r) (nI (30 * r + gm_e (K r) c)) (nI a) (LP e) (LS e) 0 (nI oc) (nI st) a_names a_parents a_values b_kind b_with b_count b_bodyAt a_priorities b_given b_there b_wanted wt bw bl BL BR BS BE BRow BPc BNode BPos BSz ou) → (¬ nu_n (K r) (fun x => a_operands (32 * r + x)) a_values (fun x a => a_table ((32 * r + x) * 24 + a)) a (LP e) (LS e) (c + 1) = 0 → ∀ (gl : Int32) (wt bl bw : Nat → Int32), wY_transform_40 post f (nI n) g_inner g_rules g_place gl (nI (e + 1)) (nI r) (nI (30 * r + gm_e (K r) (c + 1))) (nI a) (LP e) (LS e) 0 (nI oc) (nI st) a_names a_parents a_values b_kind b_with b_count b_bodyAt a_priorities b_given b_there b_wanted wt bw bl BL BR BS BE BRow BPc BNode BPos BSz ou) → wY_transform_40 post (f + 1) (nI n) g_inner g_rules g_place gl (nI (e + 1)) (nI r) (nI (30 * r + c)) (nI a) (LP e) (LS e) 0 (nI oc) (nI st) a_names a_parents a_values b_kind b_with b_count b_bodyAt a_priorities b_given b_there b_wanted wt bw bl BL BR BS BE BRow BPc BNode BPos BSz ou := by
      intro post f gl wt bl bw hz hnz
      refine yrow gl wt bl bw (ye_pre r6 s1 hcl hcnt ky' (br_f (by decide) (br_f (by decide) (br_f (by decide) (br_f (by decide) (br_t rfl ?_))))))
      have := ye_118 (post := (fun u => match u with | (g_nodes_1, g_inner_1, g_rules_1, g_place_1, g_listed_1, g_depth_1, g_row_1, g_pc_1, g_node_1, g_position_1, g_size_1, g_fault_1, g_put_1, g_steps_1, b_name_1, b_parent_1, b_value_1, b_kind_1, b_with_1, b_count_1, b_bodyAt_1, b_priority_1, b_given_1, b_there_1, b_wanted_1, b_waiting_1, b_within_1, b_list_1, b_left_1, b_reached_1, b_sizes_1, b_each_1, b_backRow_1, b_backPc_1, b_backNode_1, b_backPosition_1, b_backSize_1, b_output_1) => wY_transform_40 post f g_nodes_1 g_inner_1 g_rules_1 g_place_1 g_listed_1 g_depth_1 g_row_1 g_pc_1 g_node_1 g_position_1 g_size_1 g_fault_1 g_put_1 g_steps_1 b_name_1 b_parent_1 b_value_1 b_kind_1 b_with_1 b_count_1 b_bodyAt_1 b_priority_1 b_given_1 b_there_1 b_wanted_1 b_waiting_1 b_within_1 b_list_1 b_left_1 b_reached_1 b_sizes_1 b_each_1 b_backRow_1 b_backPc_1 b_backNode_1 b_backPosition_1 b_backSize_1 b_output_1)) (K := K r) (O := fun x => a_operands (32 * r + x)) (r := r) (l := len r) (c := c) (oc := oc) (n := n) (nd := a) (tb := fun x a => a_table ((32 * r + x) * 24 + a)) (g_inner := g_inner) (g_rules := g_rules) (g_place := g_place) (g_listed := gl) (g_depth := nI (e + 1)) (g_position := LP e) (g_size := LS e) (g_fault := 0) (g_steps := nI st) (b_name := a_names) (b_parent := a_parents) (b_value := a_values) (b_priority := a_priorities) (b_wanted := b_wanted) (b_waiting := wt) (b_within := bw) (b_list := bl) (b_left := BL) (b_reached := BR) (b_sizes := BS) (b_each := BE) (b_backRow := BRow) (b_backPc := BPc) (b_backNode := BNode) (b_backPosition := BPos) (b_backSize := BSz) (b_output := ou) (b_count := b_count) (b_bodyAt := b_bodyAt) (b_given := b_given) (b_there := b_there) W s4 r6 hcl o30 T hov TE (Or.inr kk) ha (fun z => absurd z (by omega)) (fun _ z gl' wt' bl' bw' => hz z gl' wt' bl' bw') (fun _ z gl' wt' bl' bw' => hnz z gl' wt' bl' bw')
      rw [kk] at this
      exact this
    refine xe_24 he (by omega) kx' (xt_num (K := K r) (len := len r) (b := 32 * r) (c := c) (nd := a) o30 he W (by omega) s3 (by omega) p1 hE (by omega) hLN fun res => ⟨fun z => absurd z (by omega), fun _ z => ?_, fun _ z => ?_⟩)
    · exact nm_r (nI_1 t) (ih (t + 1) fX (e + 1) st oc _ _ _ _ _ _ res LL LN LP LS LB LR ou BL BR BS BE BRow BPc BNode BPos BSz hfX f1 (by omega) (by omega) hst (by omega) hl f2 fun post ⟨f, hf⟩ => H post ⟨f + 1, fun gl wt bl bw => Y gl wt bl bw (fun _ => hf) (fun y => absurd z y)⟩)
    · exact nm_r (nI_1 t) (ih (t + 1) fX (e + 1) st oc _ _ _ _ _ _ res LL LN LP LS LB LR ou BL BR BS BE BRow BPc BNode BPos BSz hfX h1 (by omega) (by omega) hst (by omega) hl h2 fun post ⟨f, hf⟩ => H post ⟨f + 1, fun gl wt bl bw => Y gl wt bl bw (fun y => absurd y z) (fun _ => hf)⟩)
  · obtain ⟨p1, p2, p3⟩ := L.2.2.2.2.2.2.2.2.2.2.2.2.2.2.2.2.1 kk
    obtain ⟨g1, g2, g3, g4⟩ := p3
    rw [kk] at kx
    have hbit : ∀ i, i < 32 → bt (a_table ((32 * r + (c + 1)) * 24 + a)) i = true → i < n := fun i hi z => nu_TEn' W 0 (fun x _ hx => TE x hx) (len r - (c + 1)) (c + 1) (by omega) (by omega) p1 a ha i hi z
    have c30 : gm_e (K r) c ≤ 30 := by omega
    refine xe_25 he (by omega) (by omega) hLN kx ?_
    have hE1 := hE (c + 1) (by omega)
    rw [hE c hcl, show 32 * r + c + 1 = 32 * r + (c + 1) from rfl, hE1]
    rcases Nat.lt_or_ge (e + 1) 12 with d12 | d12
    · refine xt_beginT d12 (nm_r (nI_1 t) (ih (t + 1) fX (e + 2) st oc (nI 223) (-1) (nI (30 * r + gm_e (K r) c)) (nI a) (LP e) (LS e) Rs _ LN _ _ _ _ ou (upd BL (e + 1) (a_table ((32 * r + (c + 1)) * 24 + a))) (upd BR (e + 1) 0) (upd BS (e + 1) (nI (nu_cnt (a_table ((32 * r + (c + 1)) * 24 + a)) n))) (upd BE (e + 1) (if K r c = 25 then nI (30 * r + gm_e (K r) (c + 1)) else -1)) (upd BRow (e + 1) (nI r)) (upd BPc (e + 1) (nI (30 * r + gm_e (K r) c))) (upd BNode (e + 1) (nI a)) (upd BPos (e + 1) (LP e)) (upd BSz (e + 1) (LS e)) hfX ?_ (by omega) (by omega) hst (by omega) ?_ (Or.inl ⟨rfl, rfl⟩) fun post ⟨f, hf⟩ => H post ⟨f + 1, fun gl wt bl bw => yrow gl wt bl bw (ye_path (tb := fun x a => a_table ((32 * r + x) * 24 + a)) W s4 r6 hcl hcnt T hov TE (Or.inr kk) ha (by omega) (fun _ gl' bl' bw' => hf gl' wt bl' bw') (fun z => absurd z (by omega)))⟩))
      · rw [ph, pk_us, ph_c (d := e + 1) (L := LR) (fun i hi => pk_un (by omega)), rm_c r6 c30, rm_i]; omega
      · intro j hj
        rcases Nat.lt_or_ge j (e + 1) with z | z
        · exact tl_lt (m := e + 1) z (fun i hi => pk_un (by omega)) (fun _ _ => rfl) (fun i hi => pk_un (by omega)) (fun i hi => pk_un (by omega)) (fun i hi => pk_un (by omega)) (fun i hi => pk_un (by omega)) (fun i hi => pk_un (by omega)) (fun i hi => pk_un (by omega)) (fun i hi => pk_un (by omega)) (fun i hi => pk_un (by omega)) (fun i hi => pk_un (by omega)) (fun i hi => pk_un (by omega)) (fun i hi => pk_un (by omega)) (fun i hi => pk_un (by omega)) (fun i hi => pk_un (by omega)) (hl j z)
        · have ej : j = e + 1 := by omega
          subst ej
          refine ⟨by rw [pk_us, pk_us], fun i hi z => ?_, by rw [pk_us, pk_us], by rw [pk_us, pk_us, me_24 hn hbit], Or.inr ⟨r, gm_e (K r) (c + 1), ⟨r6, t1, g2, s1⟩, pk_us, by rw [pk_us, if_pos kk], pk_us⟩, Or.inr ⟨r, gm_e (K r) c, ⟨r6, t1, g3, s1⟩, pk_us, pk_us, pk_us, e, a, rfl, ha, hLN, pk_us, by rw [pk_us, pk_un (by omega)], by rw [pk_us, pk_un (by omega)]⟩⟩
          rw [pk_us] at z
          exact hbit i hi z
    · refine xt_beginF (by omega) (nm_r (nI_1 t) (tf_stop (row := nI r) (pc := nI (30 * r + gm_e (K r) c)) (node := nI a) (pos := LP e) (size := LS e) (BL := BL) (BR := BR) (BS := BS) (BE := BE) (BRow := BRow) (BPc := BPc) (BNode := BNode) (BPos := BPos) (BSz := BSz) hP (by decide) (by omega) (by omega) (by omega) (by omega) fun post ⟨f, hf⟩ => H post ⟨f + 1, fun gl wt bl bw => yrow gl wt bl bw (ye_path (tb := fun x a => a_table ((32 * r + x) * 24 + a)) W s4 r6 hcl hcnt T hov TE (Or.inr kk) ha (by omega) (fun z => absurd z (by omega)) (fun _ gl' bl' bw' => hf gl' wt bl' bw'))⟩))
  · obtain ⟨p1, p2, oo, p3, p4, p5⟩ := L.2.2.2.2.2.2.2.2.2.2.2.2.2.2.2.2.2.1 kk
    obtain ⟨f1, f2⟩ := at' (c + 1) (by omega) p2
    rw [kk] at kx
    have hop : a_openers (32 * r + c) = nI (32 * r + oo) := by
      have := (hD r oo (by omega) (by omega) (by omega)).2.2 (by omega) p4
      rw [p5, show 32 * r + (c + 1) - 1 = 32 * r + c by omega] at this
      exact this
    refine xe_26 (ko := K r oo) he (by omega) o30 kx hop (by omega) (s3 oo (by omega)) p4 (fun ko => ?_) (fun ko => ?_) (fun ko => ?_)
    · exact nm_r (nI_1 t) (ih (t + 1) fX (e + 1) st (oc + 1) _ _ _ _ _ _ Rs LL LN LP LS LB LR _ BL BR BS BE BRow BPc BNode BPos BSz hfX f1 (by omega) (by omega) hst (by omega) hl f2 fun post ⟨f, hf⟩ => H post ⟨f + 1, fun gl wt bl bw => yrow gl wt bl bw (ye_26 W s4 r6 hcl o30 hcnt kk p3 p4 p5 (fun _ => hf gl wt bl bw) (fun z => absurd z (by omega)) (fun z => absurd z (by omega)))⟩)
    · exact nm_r (nI_1 t) (ih (t + 1) fX (e + 1) st oc _ _ _ _ _ _ Rs LL LN LP LS LB LR ou BL BR BS BE BRow BPc BNode BPos BSz hfX f1 (by omega) (by omega) hst (by omega) hl f2 fun post ⟨f, hf⟩ => H post ⟨f + 1, fun gl wt bl bw => yrow gl wt bl bw (ye_26 W s4 r6 hcl o30 hcnt kk p3 p4 p5 (fun z => absurd z (by omega)) (fun _ => hf gl wt bl bw) (fun z => absurd z (by omega)))⟩)
    · exact nm_r (nI_1 t) (ih (t + 1) fX (e + 1) st oc (nI 223) (-1) (nI (30 * r + (c + 1))) (nI a) (LP e) (LS e) Rs LL LN LP LS LB LR ou BL BR BS BE BRow BPc BNode BPos BSz hfX idle (by omega) (by omega) hst (by omega) hl (Or.inl ⟨rfl, rfl⟩) fun post ⟨f, hf⟩ => H post ⟨f + 1, fun gl wt bl bw => yrow gl wt bl bw (ye_26 W s4 r6 hcl o30 hcnt kk p3 p4 p5 (fun z => absurd z (by omega)) (fun z => absurd z (by omega)) (fun _ => hf gl wt bl bw))⟩)
end
section
/-! transform -/
section
variable {f_nodeCount f_innermost f_draftLength f_rulesGiven f_wrongToken f_wantedCount f_inCondition f_depth f_cursor f_outcome f_outputCount f_stepsTaken : Int32} {a_names a_values a_parents a_kinds a_operands a_priorities a_givenAt a_wanted a_axes a_passing a_ends a_openers a_table a_results a_matched a_listLeft a_listNode a_listPosition a_listSize a_listBody a_listReturn a_outputs : Nat → Int32}
variable {g_nodes g_inner g_rules g_place g_listed g_depth g_row g_pc g_node g_position g_size g_fault g_put g_steps : Int32} {b_name b_parent b_value b_kind b_with b_count b_bodyAt b_priority b_given b_there b_wanted b_waiting b_within b_list b_left b_reached b_sizes b_each b_backRow b_backPc b_backNode b_backPosition b_backSize b_output : Nat → Int32}
variable {n k : Nat} {K : Nat → Nat → Nat} {len : Nat → Nat} {P : Int32 → SX → Prop} {Z : (Int32 → SY → Prop) → Prop}
theorem tf_main (T : tr_T a_parents n) (hS : ∀ r, r < 7 → rl_S a_kinds a_operands b_kind b_with K len r) (hR : ∀ r, r < 6 → rl_R k K len a_givenAt b_count b_bodyAt b_given b_there r) (hk : k < 10000) (hA : xs_ax a_axes a_parents n) (hD : xt_D a_operands a_values a_parents a_names K len n a_ends a_openers a_table 0 192) (hM : ∀ r, r < 6 → ∀ i, i < n → (bt (a_matched r) i = true ↔ K r 0 = 15 ∧ ∃ a, a < n ∧ bt (a_table (32 * r * 24 + a)) i = true ∧ (i = a ∨ tr_a a_parents a i = true))) (hP : ∀ (rr : Int32) (d oc st : Nat) (cu row pc node pos size : Int32) (Rs LL LN LP LS LB LR ou BL BR BS BE BRow BPc BNode BPos BSz : Nat → Int32), (∀ post : Int32 → SY → Prop, (∀ (gl : Int32) (wt bl bw : Nat → Int32), post rr (nI n, g_inner, g_rules, g_place, gl, nI d, row, pc, node, pos, size, rr, nI oc, nI st, a_names, a_parents, a_values, b_kind, b_with, b_count, b_bodyAt, a_priorities, b_given, b_there, b_wanted, wt, bw, bl, BL, BR, BS, BE, BRow, BPc, BNode, BPos, BSz, ou)) → Z post) → P rr (nI n, f_innermost, f_draftLength, f_rulesGiven, f_wrongToken, f_wantedCount, f_inCondition, nI d, cu, rr, nI oc, nI st, a_names, a_values, a_parents, a_kinds, a_operands, a_priorities, a_givenAt, a_wanted, a_axes, a_passing, a_ends, a_openers, a_table, Rs, a_matched, LL, LN, LP, LS, LB, LR, ou)) : ∀ N : Nat, ∀ (t fX d st oc : Nat) (cu row pc node pos size : Int32) (Rs LL LN LP LS LB LR ou BL BR BS BE BRow BPc BNode BPos BSz : Nat → Int32), N < fX → (150 - st) * 64 + ph LR d + 2 * rm cu ≤ N → t + N ≤ 20000 → d ≤ 12 → st ≤ 150 → oc ≤ t → (∀ j, j < d → tl K len b_there n LL LN LP LS LB LR BL BR BS BE BRow BPc BNode BPos BSz j) → tu K len b_there n LN LP LS d cu row pc node pos size → (∀ post : Int32 → SY → Prop, (∃ f, ∀ (gl : Int32) (wt bl bw : Nat → Int32), wY_transform_40 post f (nI n) g_inner g_rules g_place gl (nI d) row pc node pos size 0 (nI oc) (nI st) a_names a_parents a_values b_kind b_with b_count b_bodyAt a_priorities b_given b_there b_wanted wt bw bl BL BR BS BE BRow BPc BNode BPos BSz ou) → Z post) → wX_transform_52 P fX (nI t) (nI n) f_innermost f_draftLength f_rulesGiven f_wrongToken f_wantedCount f_inCondition (nI d) cu 0 (nI oc) (nI st) a_names a_values a_parents a_kinds a_operands a_priorities a_givenAt a_wanted a_axes a_passing a_ends a_openers a_table Rs a_matched LL LN LP LS LB LR ou := by
  intro N
  induction N with
  | zero =>
    intro t fX d st oc cu row pc node pos size Rs LL LN LP LS LB LR ou BL BR BS BE BRow BPc BNode BPos BSz hfX hph htN hd hst hoc hl hu H
    obtain ⟨f, rfl⟩ : ∃ x, fX = x + 1 := ⟨fX - 1, by omega⟩
    cases d with
    | zero => exact br_f (nI_ge (b := 1000000) (by omega) (by decide)) (br_t (by decide) (hP 0 0 oc st cu row pc node pos size Rs LL LN LP LS LB LR ou BL BR BS BE BRow BPc BNode BPos BSz fun post hpost => H post ⟨1, fun gl wt bl bw => br_t (by decide) (hpost gl wt bl bw)⟩))
    | succ e => rw [ph] at hph; omega
  | succ N ih =>
    intro t fX d st oc cu row pc node pos size Rs LL LN LP LS LB LR ou BL BR BS BE BRow BPc BNode BPos BSz hfX hph htN hd hst hoc hl hu H
    obtain ⟨f, rfl⟩ : ∃ x, fX = x + 1 := ⟨fX - 1, by omega⟩
    cases d with
    | zero => exact br_f (nI_ge (b := 1000000) (by omega) (by decide)) (br_t (by decide) (hP 0 0 oc st cu row pc node pos size Rs LL LN LP LS LB LR ou BL BR BS BE BRow BPc BNode BPos BSz fun post hpost => H post ⟨1, fun gl wt bl bw => br_t (by decide) (hpost gl wt bl bw)⟩))
    | succ e =>
      have dne : ¬ nI (e + 1) ≤ 0 := nI_nle (by omega) (by omega)
      refine br_f (nI_ge (b := 1000000) (by omega) (by decide)) (br_f dne (br_t rfl ?_))
      rcases hu with ⟨hcu, hrow⟩ | ⟨r, c, p, hcu, hrow, hpc, i, a, ei, ha, hLN, hnode, hpos, hsize⟩
      · subst hcu hrow
        have k6 := hS 6 (by omega)
        have k27 : a_kinds 223 = nI 27 := by
          have z := k6.2.2.1 31 (by omega)
          rw [k6.2.1 31 (by have := k6.1; omega)] at z
          exact z
        exact xe_A (by omega) (by omega) k27 (tf_adv T hS hR hk hA hD hM hP ih t f e st oc (nI 223) (-1) pc node pos size Rs LL LN LP LS LB LR ou BL BR BS BE BRow BPc BNode BPos BSz (by omega) (by omega) (by omega) (by omega) hst hoc hl H)
      · have ee : i = e := by omega
        subst hcu hrow hpc hnode hpos hsize
        subst ee
        have r6 := p.1
        have l30 := p.2.2.2
        have c30 : c ≤ 30 := by rcases p.2.2.1 with y | y <;> omega
        rw [rm_c r6 c30] at hph
        have hcnt : b_count r = nI (len r) := by
          rcases hR r r6 with ⟨z, _⟩ | ⟨_, _, _, _, _, z, _⟩
          · rw [p.2.1] at z; exact absurd z (by decide)
          · exact z
        rcases p.2.2.1 with cl | ⟨cl, k20, k26⟩
        · subst cl
          have kr := hS r (by omega)
          have k27 : a_kinds (32 * r + len r) = nI 27 := by
            have z := kr.2.2.1 (len r) (by omega)
            rw [kr.2.1 (len r) (Nat.le_refl _)] at z
            exact z
          exact xe_A (by omega) (by omega) k27 (tf_adv T hS hR hk hA hD hM hP ih t f i st oc _ (-1) (nI (30 * r + len r)) (nI a) (LP i) (LS i) Rs LL LN LP LS LB LR ou BL BR BS BE BRow BPc BNode BPos BSz (by omega) (by omega) (by omega) (by omega) hst hoc hl fun post ⟨g, hg⟩ => H post ⟨g + 1, fun gl wt bl bw => br_f dne (br_t rfl (br_t (nI_pos' (by omega)) (ye_E r6 l30 hcnt (hg gl wt bl bw))))⟩)
        · exact tf_tok T hS hR hk hA hD hM hP ih t f i st oc r c a Rs LL LN LP LS LB LR ou BL BR BS BE BRow BPc BNode BPos BSz (by omega) r6 p.2.1 cl k20 k26 ha hLN (by omega) (by omega) (by omega) hst hoc hl H
end
theorem i_vc_transform {k : Nat} {u : SX} {v : SY} (I : i_Rel k u v) (hk : k + 4 ≤ 2048) : wpX_transform (fun r u' => wpY_transform (fun r' v' => r' = r ∧ i_Rel (k + 4) u' v') v) u := by
  refine i_elim (Q := fun u v => wpX_transform (fun r u' => wpY_transform (fun r' v' => r' = r ∧ i_Rel (k + 4) u' v') v) u) I ?_
  intro n K len g f_innermost f_wrongToken f_wantedCount f_inCondition f_depth f_cursor f_outcome f_outputCount f_stepsTaken a_names a_values a_parents a_kinds a_operands a_priorities a_givenAt a_wanted a_axes a_passing a_ends a_openers a_table a_results a_matched a_listLeft a_listNode a_listPosition a_listSize a_listBody a_listReturn a_outputs g_listed g_depth g_row g_pc g_node g_position g_size g_fault b_kind b_with b_count b_bodyAt b_given b_there b_wanted b_waiting b_within b_list b_left b_reached b_sizes b_each b_backRow b_backPc b_backNode b_backPosition b_backSize R
  have R4 := rl_up (k' := k + 4) (by omega) R
  obtain ⟨h1, h2, h3, h4, h5, h6, h7⟩ := R4
  have hn := h1.1
  rcases Nat.eq_zero_or_pos n with n0 | n0
  · have e0 : nI n = 0 := by rw [n0]; rfl
    exact br_t e0 (br_t e0 ⟨rfl, i_mk (K := K) ⟨h1, h2, h3, h4, h5, h6, h7⟩⟩)
  · have e0 : ¬ nI n = 0 := nI_ne0 n0 (by omega)
    refine br_f e0 ?_
    refine xw_tabulate (lo := 0) (hi := 192) (K := K) (len := len) (by omega) (by omega) (by omega) (by omega) h1 h2 (fun r _ r2 => rl_xt (h6 r (by omega)) (h7 r (by omega))) fun A Q E B Tb Rs hA hD => ?_
    refine xo_match (K := K) hn hA (fun r hr => ⟨(h6 r (by omega)).2.2.1 0 (by omega), gm_k26 (rl_xt (h6 r (by omega)) (h7 r hr)).1 0⟩) fun M hM => ?_
    refine xt_beginT (d := 0) (by omega) ⟨9602, ?_⟩
    have b1 : ∀ i, i < 32 → bt 1 i = true → i < n := fun i hi z => by
      rw [ms_one i hi, decide_eq_true_eq] at z; omega
    refine tf_main (n := n) (k := k + 4) (K := K) (len := len) (Z := fun post => wpY_transform post (nI n, f_innermost, nI g, f_wrongToken, g_listed, g_depth, g_row, g_pc, g_node, g_position, g_size, g_fault, f_outputCount, f_stepsTaken, a_names, a_parents, a_values, b_kind, b_with, b_count, b_bodyAt, a_priorities, b_given, b_there, b_wanted, b_waiting, b_within, b_list, b_left, b_reached, b_sizes, b_each, b_backRow, b_backPc, b_backNode, b_backPosition, b_backSize, a_outputs)) (g_inner := f_innermost) (g_rules := nI g) (g_place := f_wrongToken) (b_kind := b_kind) (b_with := b_with) (b_count := b_count) (b_bodyAt := b_bodyAt) (b_given := b_given) (b_there := b_there) (b_wanted := b_wanted) h1 h6 h7 (by omega) hA hD hM (fun rr d oc st cu row pc node pos size Rs LL LN LP LS LB LR ou BL BR BS BE BRow BPc BNode BPos BSz hZ => ?_) 9601 0 9602 1 0 0 (nI 223) (-1) g_pc g_node g_position g_size Rs _ _ _ _ _ _ _ (upd b_left 0 1) (upd b_reached 0 0) (upd b_sizes 0 (nI (nu_cnt 1 n))) (upd b_each 0 (-1)) (upd b_backRow 0 (-1)) (upd b_backPc 0 g_pc) (upd b_backNode 0 g_node) (upd b_backPosition 0 g_position) (upd b_backSize 0 g_size) (by omega) ?_ (by omega) (by omega) (by omega) (by omega) ?_ (Or.inl ⟨rfl, rfl⟩) (fun post ⟨f, hf⟩ => br_f e0 (yt_beginT (d := 0) hn (by omega) ⟨f, hf g_listed b_waiting b_list b_within⟩))
    · exact hZ _ fun gl wt bl bw => ⟨rfl, i_mk (K := K) ⟨h1, h2, h3, h4, h5, h6, h7⟩⟩
    · rw [ph, ph, pk_us, show rm 223 = 0 from rm_i, rm_i]; omega
    · intro j hj
      have ej : j = 0 := by omega
      subst ej
      refine ⟨by rw [pk_us, pk_us], fun i hi z => ?_, by rw [pk_us, pk_us], by rw [pk_us, pk_us, me_24 hn b1], Or.inl ⟨pk_us, pk_us⟩, Or.inl ⟨pk_us, pk_us⟩⟩
      rw [pk_us] at z
      exact b1 i hi z
end
