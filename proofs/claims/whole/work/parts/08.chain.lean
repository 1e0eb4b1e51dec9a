/-! a stack of the numbers that stand from i to en, as an evaluation from the right holds them -/
theorem nu_cdn {K : Nat → Nat} {len q : Nat} : ∀ {f i : Nat}, gm_cd K len f i q → gm_cd K len (q - i) i q
  | 0, i, h => gm_cd_up 0 _ _ (Nat.zero_le _) h
  | f + 1, i, h => by
    rcases h with h | ⟨a, b, c, d, h⟩
    · exact gm_cd_up 0 _ _ (Nat.zero_le _) h
    · obtain ⟨g, hg⟩ : ∃ g, q - i = g + 1 := ⟨q - i - 1, by omega⟩
      rw [hg]
      exact Or.inr ⟨a, b, c, d, gm_cd_up _ _ _ (by omega) (nu_cdn h)⟩
def ch_pr (K : Nat → Nat) (len i h : Nat) : Prop := ∃ q, gm_cd K len (q - i) i q ∧ (K q = 15 → h = gm_e K q) ∧ (K q ≠ 15 → h = q)
theorem ch_pr_self {K : Nat → Nat} {len i : Nat} (h15 : K i ≠ 15) (h16 : K i ≠ 16) : ch_pr K len i i :=
  ⟨i, by rw [Nat.sub_self]; exact ⟨rfl, h16⟩, fun z => absurd z h15, fun _ => rfl⟩
theorem ch_pr_at {K : Nat → Nat} {len i h : Nat} (h15 : K i ≠ 15) (h16 : K i ≠ 16) (p : ch_pr K len i h) : h = i := by
  obtain ⟨q, C, _, b⟩ := p
  have e : q = i := nu_cd_u C (show gm_cd K len 0 i i from ⟨rfl, h16⟩)
  subst e
  exact b h15
theorem ch_pr_15 {K : Nat → Nat} {len i h : Nat} (h15 : K i = 15) (p : ch_pr K len i h) : h = gm_e K i := by
  obtain ⟨q, C, a, _⟩ := p
  have e : q = i := nu_cd_u C (show gm_cd K len 0 i i from ⟨rfl, by omega⟩)
  subst e
  exact a h15
theorem ch_pr_step {K : Nat → Nat} {len i h : Nat} (W : gm_W K len) (hi : i < len) (h15 : K i = 15) (p : ch_pr K len (i + 1) h) : ch_pr K len i h := by
  obtain ⟨q, C, a, b⟩ := p
  obtain ⟨q', C', h1, h2, h3, h4, h5, h6, h7⟩ := (W.2.2 i hi).2.2.2.2.2.2.2.1 h15
  have e := nu_cd_u C C'
  subst e
  refine ⟨i, by rw [Nat.sub_self]; exact ⟨rfl, by omega⟩, fun _ => ?_, fun z => absurd h15 z⟩
  by_cases k : K q = 15
  · rw [a k]; exact (h4 k).1.symm
  · rw [b k]; exact (h5 k).symm
theorem ch_pr_open {K : Nat → Nat} {len o i h : Nat} (hl : ∀ q, gm_cd K len (q - i) i q → q ≤ len) (ho : o < i) (k : K o = 16) (e : gm_e K o = i) (p : ch_pr K len i h) : ch_pr K len o h := by
  obtain ⟨q, C, a, b⟩ := p
  have g := (nu_cd_ge C).1
  refine ⟨q, ?_, a, b⟩
  obtain ⟨f, hf⟩ : ∃ f, q - o = f + 1 := ⟨q - o - 1, by omega⟩
  rw [hf]
  refine Or.inr ⟨k, by omega, by omega, hl q C, ?_⟩
  rw [e]
  exact gm_cd_up _ _ _ (by omega) C
def ch_C (K : Nat → Nat) (len en : Nat) (val : Nat → Int32) (w : Nat → Int32) : Nat → Nat → Prop
  | 0, i => ch_pr K len i en
  | t + 1, i => ∃ h, ch_pr K len i h ∧ i ≤ h ∧ h < en ∧ K h ≤ 14 ∧ w t = val h ∧ ch_C K len en val w t (gm_e K h)
theorem ch_Cw {K : Nat → Nat} {len en : Nat} {val w w' : Nat → Int32} : ∀ {t i : Nat}, (∀ j, j < t → w' j = w j) → ch_C K len en val w t i → ch_C K len en val w' t i
  | 0, _, _, h => h
  | t + 1, i, hw, ⟨h, a, b, c, d, e, f⟩ => ⟨h, a, b, c, d, by rw [hw t (by omega)]; exact e, ch_Cw (fun j hj => hw j (by omega)) f⟩
theorem ch_len {K : Nat → Nat} {len en : Nat} {val w : Nat → Int32} (W : gm_W K len) (hen : en ≤ len) : ∀ {t i : Nat}, i ≤ en → ch_C K len en val w t i → t + i ≤ en
  | 0, i, hi, _ => by omega
  | t + 1, i, hi, ⟨h, a, b, c, d, e, f⟩ => by
    have L := (W.2.2 h (by omega)).1
    rcases Nat.lt_or_ge en (gm_e K h) with z | z
    · cases t with
      | zero => omega
      | succ t =>
        obtain ⟨h2, _, b2, c2, _⟩ := f
        omega
    · have := ch_len W hen z f
      omega
theorem ch_push {K : Nat → Nat} {len en t i : Nat} {val w : Nat → Int32} {x : Int32} (hx : x = val i) (hi : i < en) (k : K i ≤ 14) (h : ch_C K len en val w t (gm_e K i)) : ch_C K len en val (upd w t x) (t + 1) i :=
  ⟨i, ch_pr_self (by omega) (by omega), Nat.le_refl _, hi, k, by rw [pk_us]; exact hx, ch_Cw (fun j hj => pk_un (by omega)) h⟩
theorem ch_path {K : Nat → Nat} {len en : Nat} {val w : Nat → Int32} (W : gm_W K len) {i : Nat} (hi : i < len) (h15 : K i = 15) : ∀ {t : Nat}, ch_C K len en val w t i → ch_C K len en val w t (gm_e K i) := by
  intro t h
  obtain ⟨q', C', h1, h2, h3, h4, h5, h6, h7⟩ := (W.2.2 i hi).2.2.2.2.2.2.2.1 h15
  cases t with
  | zero =>
    have e := ch_pr_15 h15 h
    show ch_pr K len (gm_e K i) en
    rw [e]
    exact ch_pr_self h6 h7
  | succ t =>
    obtain ⟨g, a, b, c, d, e, f⟩ := h
    have ge := ch_pr_15 h15 a
    subst ge
    exact ⟨_, ch_pr_self h6 h7, Nat.le_refl _, c, d, e, f⟩
theorem ch_head {K : Nat → Nat} {len en t i : Nat} {val w : Nat → Int32} (hi : i < en) (k : K i ≤ 14) (h : ch_C K len en val w t i) : ∃ s, t = s + 1 ∧ w s = val i ∧ ch_C K len en val w s (gm_e K i) := by
  cases t with
  | zero =>
    have := ch_pr_at (by omega) (by omega) h
    omega
  | succ t =>
    obtain ⟨g, a, b, c, d, e, f⟩ := h
    have ge := ch_pr_at (by omega) (by omega) a
    subst ge
    exact ⟨t, rfl, e, f⟩
theorem ch_step {K : Nat → Nat} {len en t i : Nat} {val w : Nat → Int32} (W : gm_W K len) (hi : i < len) (h15 : K i = 15) (h : ch_C K len en val w t (i + 1)) : ch_C K len en val w t i := by
  cases t with
  | zero => exact ch_pr_step W hi h15 h
  | succ t =>
    obtain ⟨g, a, b, c, d, e, f⟩ := h
    exact ⟨g, ch_pr_step W hi h15 a, by omega, c, d, e, f⟩
theorem ch_cdl {K : Nat → Nat} {len q : Nat} : ∀ {f i : Nat}, i ≤ len → gm_cd K len f i q → q ≤ len
  | 0, i, hi, h => by rw [gm_cd] at h; omega
  | f + 1, i, hi, h => by
    rcases h with h | ⟨a, b, c, d, h⟩
    · omega
    · exact d
theorem ch_close {K : Nat → Nat} {len en t i o : Nat} {val w : Nat → Int32} (hi : i < len) (ho : o < i + 1) (k : K o = 16) (eo : gm_e K o = i + 1) (h : ch_C K len en val w t (i + 1)) : ch_C K len en val w t o := by
  have hl : ∀ q, gm_cd K len (q - (i + 1)) (i + 1) q → q ≤ len := fun q C => ch_cdl (by omega) C
  cases t with
  | zero => exact ch_pr_open hl ho k eo h
  | succ t =>
    obtain ⟨g, a, b, c, d, e, f⟩ := h
    exact ⟨g, ch_pr_open hl ho k eo a, by omega, c, d, e, f⟩
theorem ch_end {K : Nat → Nat} {len en t i : Nat} {val w : Nat → Int32} (hi : i < en) (k : K i ≤ 14) (ee : gm_e K i = en) (h : ch_C K len en val w t i) : t = 1 ∧ w 0 = val i := by
  obtain ⟨s, e, v, f⟩ := ch_head hi k h
  cases s with
  | zero => exact ⟨e, v⟩
  | succ s =>
    obtain ⟨g, a, b, c, _⟩ := f
    omega
