/-! what an accepted text looks like: each want is completed by a phrase -/
def gm_in : List Nat → Prop
  | [] => False
  | w :: s => w = 8 ∨ (w = 5 ∧ gm_in s)
theorem gm_in16 : ∀ s, gm_in s → gm_st 16 s = none
  | [], h => absurd h id
  | w :: s, h => by
    rcases h with rfl | ⟨rfl, h⟩
    · rw [gm_st8, if_neg (by decide)]
    · rw [gm_stN _ _ _ (Or.inr rfl), if_neg (by decide), if_neg (by decide), if_neg (by decide), if_neg (by decide)]
def gm_cs (K : Nat → Nat) (len b i j : Nat) : Prop := ∀ c, i ≤ c → c < j → gm_L K len c ∧ K c ≤ b ∧ gm_e K c ≤ j
theorem gm_cs_0 {K : Nat → Nat} {len b i : Nat} : gm_cs K len b i i := fun c h1 h2 => absurd h1 (by omega)
theorem gm_cs_1 {K : Nat → Nat} {len b i j : Nat} (h : gm_L K len i ∧ K i ≤ b ∧ gm_e K i ≤ j) (H : gm_cs K len b (i + 1) j) : gm_cs K len b i j := fun c h1 h2 => by
  rcases Nat.eq_or_lt_of_le h1 with e | e
  · rw [← e]; exact h
  · exact H c e h2
theorem gm_lam {K : Nat → Nat} {len b i j : Nat} (ee : gm_e K i = j) (H : gm_cs K len b (i + 1) j) : ∀ x, i ≤ x → x < gm_e K i → gm_e K x ≤ gm_e K i := fun x h1 h2 => by
  rcases Nat.eq_or_lt_of_le h1 with e | e
  · rw [e]; exact Nat.le_refl _
  · rw [ee] at h2 ⊢
    exact (H x e h2).2.2
theorem gm_flat {K : Nat → Nat} {len b i j : Nat} (ee : gm_e K i = j) (hk : K i ≤ 17) (hb : b ≤ 17) (H : gm_cs K len b (i + 1) j) : ∀ x, i ≤ x → x < gm_e K i → K x ≤ 17 := fun x h1 h2 => by
  rcases Nat.eq_or_lt_of_le h1 with e | e
  · rw [← e]; exact hk
  · rw [ee] at h2
    exact Nat.le_trans (H x e h2).2.1 hb
theorem gm_cs_2 {K : Nat → Nat} {len b i m j : Nat} (hm : m ≤ j) (H : gm_cs K len b i m) (G : gm_cs K len b m j) : gm_cs K len b i j := fun c h1 h2 => by
  rcases Nat.lt_or_ge c m with e | e
  · exact ⟨(H c h1 e).1, (H c h1 e).2.1, Nat.le_trans (H c h1 e).2.2 hm⟩
  · exact G c e h2
theorem gm_cs_b {K : Nat → Nat} {len b b' i j : Nat} (hb : b ≤ b') (H : gm_cs K len b i j) : gm_cs K len b' i j := fun c h1 h2 =>
  ⟨(H c h1 h2).1, Nat.le_trans (H c h1 h2).2.1 hb, (H c h1 h2).2.2⟩
/-- the rest of a path from i on -/
def gm_RP (K : Nat → Nat) (len b i : Nat) (s : List Nat) : Prop :=
  ∃ q j, i ≤ q ∧ q ≤ j ∧ j ≤ len ∧ gm_E1 K i q ∧ gm_cd K len (q - i) i q ∧ K q ≠ 16 ∧ (K q = 15 → gm_E0 K q j ∧ q < j) ∧ (K q ≠ 15 → j = q) ∧ K j ≠ 15 ∧ K j ≠ 16 ∧ gm_cs K len b i j ∧ gm_ac K (len - j) j s
def gm_P (K : Nat → Nat) (len b i : Nat) (s : List Nat) : Prop :=
  K i = 15 ∧ ∃ j, i < j ∧ j ≤ len ∧ gm_E0 K i j ∧ gm_cs K len b i j ∧ gm_ac K (len - j) j s
def gm_N (K : Nat → Nat) (len b i : Nat) (s : List Nat) : Prop :=
  K i ≤ 14 ∧ ∃ j, i < j ∧ j ≤ len ∧ gm_E0 K i j ∧ gm_cs K len b i j ∧ gm_ac K (len - j) j s
theorem gm_RP_stop {K : Nat → Nat} {len b d i : Nat} {s : List Nat} (hi : i + d = len) (h1 : K i ≠ 15) (h2 : K i ≠ 16) (h : gm_ac K d i s) : gm_RP K len b i s := by
  have e : len - i = d := by omega
  refine ⟨i, i, Nat.le_refl _, Nat.le_refl _, by omega, gm_E1_0 h2, ?_, h2, fun z => absurd z h1, fun _ => rfl, h1, h2, gm_cs_0, by rw [e]; exact h⟩
  rw [Nat.sub_self]; exact ⟨rfl, h2⟩
theorem gm_L15 {K : Nat → Nat} {len c q j : Nat} (hl : len ≤ 30) (hk : K c = 15) (a1 : c + 1 ≤ q) (a2 : q ≤ j) (a3 : j ≤ len) (E : gm_E1 K (c + 1) q) (C : gm_cd K len (q - (c + 1)) (c + 1) q) (h16 : K q ≠ 16) (F : K q = 15 → gm_E0 K q j ∧ q < j) (G : K q ≠ 15 → j = q) (b1 : K j ≠ 15) (b2 : K j ≠ 16) {b : Nat} (hb2 : b ≤ 17) (cs : gm_cs K len b (c + 1) j) : gm_E0 K c j ∧ gm_L K len c := by
  have E0 : gm_E0 K c j := gm_E0_step hk a1 a2 E (fun z => (F z).1) G
  have ee : gm_e K c = j := gm_E0e E0 (by omega)
  refine ⟨E0, by rw [ee]; omega, by rw [ee]; omega, gm_lam ee cs, fun h => ?_, fun h => ?_, fun h => ?_, fun h => ?_, fun h => ?_, fun h => ?_, fun h => ?_, fun h => ?_, fun h => ?_, fun h => ?_, fun h => ?_, fun h => ?_, fun h => ?_, fun h => ?_, fun h => ?_, fun h => ?_⟩
  all_goals first | (exfalso; omega) | skip
  rotate_left
  · exact gm_flat ee (by omega) hb2 cs
  rw [ee]
  exact ⟨q, C, a1, a2, h16, fun z => ⟨(gm_E0e (F z).1 (by omega)).symm, (F z).2⟩, G, b1, b2⟩
theorem gm_RP_step {K : Nat → Nat} {len b i : Nat} {s : List Nat} (hl : len ≤ 30) (hb : 15 ≤ b) (hb2 : b ≤ 17) (hk : K i = 15) (R : gm_RP K len b (i + 1) s) : gm_RP K len b i s := by
  obtain ⟨q, j, a1, a2, a3, E, C, h16, F, G, b1, b2, cs, ac⟩ := R
  obtain ⟨E0, L⟩ := gm_L15 hl hk a1 a2 a3 E C h16 F G b1 b2 hb2 cs
  refine ⟨i, j, Nat.le_refl _, by omega, a3, gm_E1_0 (by omega), ?_, by omega, fun _ => ⟨E0, by omega⟩, fun z => absurd hk z, b1, b2, gm_cs_1 ⟨L, by omega, by rw [gm_E0e E0 (by omega)]; exact Nat.le_refl _⟩ cs, ac⟩
  rw [Nat.sub_self]; exact ⟨rfl, by omega⟩
theorem gm_RP_P {K : Nat → Nat} {len b i : Nat} {s : List Nat} (hk : K i = 15) (R : gm_RP K len b i s) : gm_P K len b i s := by
  obtain ⟨q, j, a1, a2, a3, E, C, h16, F, G, b1, b2, cs, ac⟩ := R
  have e : i = q := by
    have x := E (2 * q + 1) (by omega)
    have y := gm_E1_0 (K := K) (i := i) (by omega) (2 * q + 1) (by omega)
    omega
  subst e
  exact ⟨hk, j, (F hk).2, a3, (F hk).1, cs, ac⟩
theorem gm_M7 {K : Nat → Nat} {len : Nat} (hl : len ≤ 30) (hK : K len = 27) : ∀ d i s, i + d = len → gm_in s → gm_ac K d i (7 :: s) → gm_RP K len 15 i s := by
  intro d
  induction d with
  | zero =>
    intro i s hi _ h
    have e : i = len := by omega
    subst e
    exact gm_RP_stop (d := 0) rfl (by omega) (by omega) (fun w hw => h w (List.mem_cons_of_mem _ hw))
  | succ d ih =>
    intro i s hi hs h
    obtain ⟨s', h1, h2⟩ := h
    rw [gm_st7] at h1
    by_cases hk : K i = 15
    · rw [if_pos hk] at h1
      cases h1
      exact gm_RP_step hl (Nat.le_refl _) (by omega) hk (ih (i + 1) s (by omega) hs h2)
    · rw [if_neg hk] at h1
      refine gm_RP_stop hi hk (fun z => ?_) ⟨s', h1, h2⟩
      rw [z, gm_in16 s hs] at h1
      exact nomatch h1
theorem gm_P6 {K : Nat → Nat} {len : Nat} (hl : len ≤ 30) (hK : K len = 27) (d i : Nat) (s : List Nat) (hi : i + d = len) (hs : gm_in s) (h : gm_ac K d i (6 :: s)) : gm_P K len 15 i s := by
  cases d with
  | zero => have := h 6 (by simp); omega
  | succ d =>
    obtain ⟨s', h1, h2⟩ := h
    rw [gm_stP _ _ _ (Or.inr rfl)] at h1
    by_cases hk : K i = 15
    · refine gm_RP_P hk (gm_M7 hl hK (d + 1) i s hi hs ⟨s', ?_, h2⟩)
      rw [gm_st7, if_pos hk]
      rw [if_pos hk] at h1
      exact h1
    · rw [if_neg hk] at h1
      exact nomatch h1
theorem gm_num {K : Nat → Nat} {len b w d : Nat} {ok : List Nat → Prop} (hl : len ≤ 30) (hb : 15 ≤ b) (hb2 : b ≤ 17) (hw : w = 2 ∨ w = 5) (hok : ∀ s, ok s → ok (w :: s))
    (hN : ∀ d' i s, d' ≤ d → i + d' = len → ok s → gm_ac K d' i (w :: s) → gm_N K len b i s)
    (hP : ∀ d' i s, d' ≤ d → i + d' = len → ok s → gm_ac K d' i ((w + 1) :: s) → gm_P K len b i s)
    (i : Nat) (s : List Nat) (hi : i + (d + 1) = len) (hs : ok s) (h : gm_ac K (d + 1) i (w :: s)) : gm_N K len b i s := by
  obtain ⟨s', h1, h2⟩ := h
  rw [gm_stN _ _ _ hw] at h1
  by_cases h3 : K i ≤ 3
  · rw [if_pos h3] at h1
    cases h1
    have E0 : gm_E0 K i (i + 1) := gm_E0_leaf (Or.inl h3)
    have ee : gm_e K i = i + 1 := gm_E0e E0 (by omega)
    have e : len - (i + 1) = d := by omega
    refine ⟨by omega, i + 1, by omega, by omega, E0, gm_cs_1 ⟨?_, by omega, by omega⟩ gm_cs_0, by rw [e]; exact h2⟩
    refine ⟨by rw [ee]; omega, by rw [ee]; omega, gm_lam ee (gm_cs_0 (len := len) (b := 17)), fun h => ?_, fun h => ?_, fun h => ?_, fun h => ?_, fun h => ?_, fun h => ?_, fun h => ?_, fun h => ?_, fun h => ?_, fun h => ?_, fun h => ?_, fun h => ?_, fun h => ?_, fun h => ?_, fun h => ?_, fun h => ?_⟩
    all_goals first | (exfalso; omega) | skip
    · exact ee
    · exact gm_flat (len := len) (b := 17) ee (by omega) (by omega) gm_cs_0
  rw [if_neg h3] at h1
  by_cases h6 : K i ≤ 6
  · rw [if_pos h6] at h1
    cases h1
    obtain ⟨k15, j, a1, a2, E, cs, ac⟩ := hP d (i + 1) s (Nat.le_refl _) (by omega) hs h2
    have E0 : gm_E0 K i j := gm_E0_one (by omega) a1 E
    have ee : gm_e K i = j := gm_E0e E0 (by omega)
    have e1 : gm_e K (i + 1) = j := gm_E0e E (by omega)
    refine ⟨by omega, j, by omega, a2, E0, gm_cs_1 ⟨?_, by omega, by omega⟩ cs, ac⟩
    refine ⟨by rw [ee]; omega, by rw [ee]; omega, gm_lam ee cs, fun h => ?_, fun h => ?_, fun h => ?_, fun h => ?_, fun h => ?_, fun h => ?_, fun h => ?_, fun h => ?_, fun h => ?_, fun h => ?_, fun h => ?_, fun h => ?_, fun h => ?_, fun h => ?_, fun h => ?_, fun h => ?_⟩
    all_goals first | (exfalso; omega) | skip
    rotate_left
    · exact gm_flat ee (by omega) hb2 cs
    rw [ee, e1]
    exact ⟨k15, rfl, a1⟩
  rw [if_neg h6] at h1
  by_cases h13 : K i ≤ 13
  · rw [if_pos h13] at h1
    cases h1
    obtain ⟨k1, j1, a1, a2, E, cs1, ac1⟩ := hN d (i + 1) (w :: s) (Nat.le_refl _) (by omega) (hok s hs) h2
    obtain ⟨k2, j, c1, c2, F, cs2, ac2⟩ := hN (len - j1) j1 s (by omega) (by omega) hs ac1
    have E0 : gm_E0 K i j := gm_E0_two ⟨by omega, h13⟩ a1 c1 E F
    have ee : gm_e K i = j := gm_E0e E0 (by omega)
    have e1 : gm_e K (i + 1) = j1 := gm_E0e E (by omega)
    have e2 : gm_e K j1 = j := gm_E0e F (by omega)
    refine ⟨by omega, j, by omega, c2, E0, gm_cs_1 ⟨?_, by omega, by omega⟩ (gm_cs_2 (by omega) cs1 cs2), ac2⟩
    refine ⟨by rw [ee]; omega, by rw [ee]; omega, gm_lam ee (gm_cs_2 (Nat.le_of_lt c1) cs1 cs2), fun h => ?_, fun h => ?_, fun h => ?_, fun h => ?_, fun h => ?_, fun h => ?_, fun h => ?_, fun h => ?_, fun h => ?_, fun h => ?_, fun h => ?_, fun h => ?_, fun h => ?_, fun h => ?_, fun h => ?_, fun h => ?_⟩
    all_goals first | (exfalso; omega) | skip
    rotate_left
    · exact gm_flat ee (by omega) hb2 (gm_cs_2 (Nat.le_of_lt c1) cs1 cs2)
    rw [ee, e1, e2]
    exact ⟨k1, k2, a1, c1, rfl⟩
  rw [if_neg h13] at h1
  by_cases h14 : K i = 14
  · rw [if_pos h14] at h1
    cases h1
    obtain ⟨k1, j, a1, a2, E, cs, ac⟩ := hN d (i + 1) s (Nat.le_refl _) (by omega) hs h2
    have E0 : gm_E0 K i j := gm_E0_one (by omega) a1 E
    have ee : gm_e K i = j := gm_E0e E0 (by omega)
    have e1 : gm_e K (i + 1) = j := gm_E0e E (by omega)
    refine ⟨by omega, j, by omega, a2, E0, gm_cs_1 ⟨?_, by omega, by omega⟩ cs, ac⟩
    refine ⟨by rw [ee]; omega, by rw [ee]; omega, gm_lam ee cs, fun h => ?_, fun h => ?_, fun h => ?_, fun h => ?_, fun h => ?_, fun h => ?_, fun h => ?_, fun h => ?_, fun h => ?_, fun h => ?_, fun h => ?_, fun h => ?_, fun h => ?_, fun h => ?_, fun h => ?_, fun h => ?_⟩
    all_goals first | (exfalso; omega) | skip
    rotate_left
    · exact gm_flat ee (by omega) hb2 cs
    rw [ee, e1]
    exact ⟨k1, rfl, a1⟩
  rw [if_neg h14] at h1
  exact nomatch h1
theorem gm_N5 {K : Nat → Nat} {len : Nat} (hl : len ≤ 30) (hK : K len = 27) : ∀ d i s, i + d = len → gm_in s → gm_ac K d i (5 :: s) → gm_N K len 15 i s := by
  intro d
  induction d using Nat.strongRecOn with
  | _ d ih =>
    cases d with
    | zero => intro i s _ _ h; have := h 5 (by simp); omega
    | succ d =>
      exact gm_num (ok := gm_in) hl (Nat.le_refl _) (by omega) (Or.inr rfl) (fun s h => Or.inr ⟨rfl, h⟩) (fun d' i s hd => ih d' (by omega) i s) (fun d' i s _ => gm_P6 hl hK d' i s)
theorem gm_M4 {K : Nat → Nat} {len : Nat} (hl : len ≤ 30) (hK : K len = 27) : ∀ d i s, i + d = len → gm_ac K d i (4 :: s) → gm_RP K len 17 i s := by
  intro d
  induction d using Nat.strongRecOn with
  | _ d ih =>
    intro i s hi h
    cases d with
    | zero =>
      have e : i = len := by omega
      subst e
      exact gm_RP_stop (d := 0) rfl (by omega) (by omega) (fun w hw => h w (List.mem_cons_of_mem _ hw))
    | succ d =>
      obtain ⟨s', h1, h2⟩ := h
      rw [gm_st4] at h1
      by_cases hk : K i = 15
      · rw [if_pos hk] at h1
        cases h1
        exact gm_RP_step hl (by omega) (by omega) hk (ih d (by omega) (i + 1) s (by omega) h2)
      rw [if_neg hk] at h1
      by_cases ho : K i = 16
      · rw [if_pos ho] at h1
        cases h1
        obtain ⟨k1, j, a1, a2, E, cs, ac⟩ := gm_N5 hl hK d (i + 1) (8 :: 4 :: s) (by omega) (Or.inl rfl) h2
        have hj : j < len := by
          rcases Nat.lt_or_ge j len with z | z
          · exact z
          · have e : len - j = 0 := by omega
            rw [e] at ac
            have := ac 8 (by simp)
            omega
        obtain ⟨m, hm⟩ : ∃ m, len - j = m + 1 := ⟨len - j - 1, by omega⟩
        rw [hm] at ac
        obtain ⟨s2, g1, g2⟩ := ac
        rw [gm_st8] at g1
        by_cases hc : K j = 17
        · rw [if_pos hc] at g1
          cases g1
          obtain ⟨q, j2, c1, c2, c3, E1, C, h16, F, G, b1, b2, cs2, ac2⟩ := ih m (by omega) (j + 1) s (by omega) g2
          have E0 : gm_E0 K i (j + 1) := gm_E0_open ho a1 E
          have ee : gm_e K i = j + 1 := gm_E0e E0 (by omega)
          have e1 : gm_e K (i + 1) = j := gm_E0e E (by omega)
          have ej : gm_e K j = j + 1 := gm_E0e (gm_E0_leaf (Or.inr (Or.inl hc))) (by omega)
          have Lj : gm_L K len j := by
            refine ⟨by rw [ej]; omega, by rw [ej]; omega, gm_lam (len := len) (b := 17) ej gm_cs_0, fun h => ?_, fun h => ?_, fun h => ?_, fun h => ?_, fun h => ?_, fun h => ?_, fun h => ?_, fun h => ?_, fun h => ?_, fun h => ?_, fun h => ?_, fun h => ?_, fun h => ?_, fun h => ?_, fun h => ?_, fun h => ?_⟩
            all_goals first | (exfalso; omega) | skip
            · omega
            · exact ⟨ej, i, by omega, ho, ee⟩
          have Li : gm_L K len i := by
            refine ⟨by rw [ee]; omega, by rw [ee]; omega, gm_lam ee (gm_cs_2 (Nat.le_succ j) (gm_cs_b (Nat.le_succ_of_le (Nat.le_succ 15)) cs) (gm_cs_1 ⟨Lj, Nat.le_of_eq hc, Nat.le_of_eq ej⟩ gm_cs_0)), fun h => ?_, fun h => ?_, fun h => ?_, fun h => ?_, fun h => ?_, fun h => ?_, fun h => ?_, fun h => ?_, fun h => ?_, fun h => ?_, fun h => ?_, fun h => ?_, fun h => ?_, fun h => ?_, fun h => ?_, fun h => ?_⟩
            all_goals first | (exfalso; omega) | skip
            refine ⟨k1, by rw [e1]; exact a1, by rw [e1]; exact hc, by rw [ee, e1], fun x x1 x2 => ?_⟩
            rw [e1] at x2
            exact (cs x x1 x2).2.1
          refine ⟨q, j2, by omega, c2, c3, gm_E1_s ho (by omega) c1 E0 E1, ?_, h16, F, G, b1, b2, ?_, ac2⟩
          · obtain ⟨f, hf⟩ : ∃ f, q - i = f + 1 := ⟨q - i - 1, by omega⟩
            rw [hf]
            refine Or.inr ⟨ho, by rw [ee]; omega, by rw [ee]; omega, by omega, ?_⟩
            rw [ee]
            exact gm_cd_up _ _ _ (by omega) C
          · exact gm_cs_1 ⟨Li, by omega, by omega⟩ (gm_cs_2 (by omega) (gm_cs_b (by omega) cs) (gm_cs_1 ⟨Lj, by omega, by omega⟩ cs2))
        · rw [if_neg hc] at g1
          exact nomatch g1
      rw [if_neg ho] at h1
      exact gm_RP_stop hi hk ho ⟨s', h1, h2⟩
theorem gm_P3 {K : Nat → Nat} {len : Nat} (hl : len ≤ 30) (hK : K len = 27) (d i : Nat) (s : List Nat) (hi : i + d = len) (h : gm_ac K d i (3 :: s)) : gm_P K len 17 i s := by
  cases d with
  | zero => have := h 3 (by simp); omega
  | succ d =>
    obtain ⟨s', h1, h2⟩ := h
    rw [gm_stP _ _ _ (Or.inl rfl)] at h1
    by_cases hk : K i = 15
    · refine gm_RP_P hk (gm_M4 hl hK (d + 1) i s hi ⟨s', ?_, h2⟩)
      rw [gm_st4, if_pos hk]
      rw [if_pos hk] at h1
      exact h1
    · rw [if_neg hk] at h1
      exact nomatch h1
theorem gm_N2 {K : Nat → Nat} {len : Nat} (hl : len ≤ 30) (hK : K len = 27) : ∀ d i s, i + d = len → gm_ac K d i (2 :: s) → gm_N K len 17 i s := by
  intro d
  induction d using Nat.strongRecOn with
  | _ d ih =>
    cases d with
    | zero => intro i s _ h; have := h 2 (by simp); omega
    | succ d =>
      intro i s hi
      exact gm_num (ok := fun _ => True) hl (by omega) (by omega) (Or.inl rfl) (fun s h => h) (fun d' i s hd hi _ => ih d' (by omega) i s hi) (fun d' i s _ hi _ => gm_P3 hl hK d' i s hi) i s hi trivial
