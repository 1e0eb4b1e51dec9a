/-! bodies, and the three uses of a draft -/
theorem gm_bpw {K : Nat → Nat} {len d i w : Nat} {s : List Nat} (hw : w ≤ 1) (hi : i + d = len) (h : gm_ac K d i (w :: s)) : gm_bp K len i := by
  cases d with
  | zero => exact Or.inl (by omega)
  | succ d =>
    obtain ⟨s', h1, h2⟩ := h
    rw [gm_stB _ _ _ hw] at h1
    by_cases hk : 20 ≤ K i ∧ K i ≤ 26
    · exact Or.inr ⟨by omega, hk⟩
    · rw [if_neg (by omega), if_neg (by omega), if_neg (by omega), if_neg (by omega), if_neg (by omega), if_neg (by omega), if_neg (by omega)] at h1
      exact nomatch h1
def gm_X (K : Nat → Nat) (len w i : Nat) (s : List Nat) : Prop :=
  ∃ j, i < j ∧ j ≤ len ∧ gm_E0 K i j ∧ gm_cs K len 26 i j ∧ gm_od K j = gm_od K i ∧ (∀ x, i ≤ x → x ≤ j → gm_od K i ≤ gm_od K x) ∧ gm_ac K (len - j) j (w :: s)
def gm_B (K : Nat → Nat) (len w i : Nat) (s : List Nat) : Prop :=
  ∃ j, i < j ∧ j ≤ len ∧ gm_E2 K i j ∧ gm_ch K (j - i) i j ∧ K (j - 1) = 26 ∧ gm_cs K len 26 i (j - 1) ∧ gm_od K (j - 1) = gm_od K i ∧ (∀ x, i ≤ x → x < j → gm_od K i ≤ gm_od K x) ∧ gm_ac K (len - j) j (w :: s)
theorem gm_opn {K : Nat → Nat} {len w i b j : Nat} {s : List Nat} (hl : len ≤ 30) (hw : w ≤ 1) (ho : K i = 21 ∨ K i = 24 ∨ K i = 25) (hb : i < b) (hf : ∀ x, i + 1 ≤ x → x ≤ b → gm_od K x = gm_od K i + 1) (hbp : gm_bp K len b) (E0 : gm_E0 K i j)
    (h1 : b < j) (h2 : j ≤ len) (C : gm_ch K (j - b) b j) (hE : K (j - 1) = 26) (od1 : gm_od K (j - 1) = gm_od K b) (od2 : ∀ x, b ≤ x → x < j → gm_od K b ≤ gm_od K x) (ac : gm_ac K (len - j) j (w :: s)) :
    gm_op K len i b ∧ gm_L K len (j - 1) ∧ gm_od K j = gm_od K i ∧ ∀ x, i ≤ x → x ≤ j → gm_od K i ≤ gm_od K x := by
  have ee : gm_e K i = j := gm_E0e E0 (by omega)
  have fb := hf b (by omega) (Nat.le_refl _)
  have ej : j - 1 + 1 = j := by omega
  have oj : gm_od K j = gm_od K i := by
    have := gm_od_e hE
    rw [ej] at this
    omega
  have ins : ∀ x, i < x → x < j → gm_od K i + 1 ≤ gm_od K x := fun x x1 x2 => by
    rcases Nat.le_total x b with z | z
    · have := hf x x1 z; omega
    · have := od2 x z x2; omega
  have bj : gm_bp K len j := gm_bpw hw (by omega) ac
  refine ⟨?_, ?_, oj, fun x x1 x2 => ?_⟩
  · unfold gm_op
    rw [ee]
    exact ⟨h1, hbp, bj, gm_ch_up _ _ _ (by omega) C, hE, oj, ins⟩
  · have e1 : gm_e K (j - 1) = j := by
      have := gm_E0e (gm_E0_leaf (K := K) (i := j - 1) (by omega)) (by omega)
      rw [this, ej]
    refine ⟨by rw [e1]; omega, by rw [e1]; omega, gm_lam (len := len) (b := 26) e1 (by rw [ej]; exact gm_cs_0), fun h => ?_, fun h => ?_, fun h => ?_, fun h => ?_, fun h => ?_, fun h => ?_, fun h => ?_, fun h => ?_, fun h => ?_, fun h => ?_, fun h => ?_, fun h => ?_, fun h => ?_, fun h => ?_, fun h => ?_, fun h => ?_⟩
    all_goals first | (exfalso; omega) | skip
    · omega
    · rw [e1, ej]
      exact ⟨rfl, bj, i, by omega, ho, ee⟩
  · rcases Nat.eq_or_lt_of_le x1 with z | z
    · rw [z]; exact Int.le_refl _
    · rcases Nat.eq_or_lt_of_le x2 with y | y
      · rw [y, oj]; exact Int.le_refl _
      · have := ins x z y; omega
theorem gm_el {K : Nat → Nat} {len w d : Nat} {s : List Nat} (hl : len ≤ 30) (hK : K len = 27) (hw : w ≤ 1) (hB : ∀ d' i, d' ≤ d → i + d' = len → gm_ac K d' i (1 :: w :: s) → gm_B K len w i s)
    (i : Nat) (hi : i + (d + 1) = len) (hk : 20 ≤ K i ∧ K i ≤ 25) (h : gm_ac K (d + 1) i (w :: s)) : gm_X K len w i s := by
  obtain ⟨s', h1, h2⟩ := h
  rw [gm_stB _ _ _ hw] at h1
  by_cases h20 : K i = 20
  · rw [if_pos h20] at h1
    cases h1
    have E0 : gm_E0 K i (i + 1) := gm_E0_leaf (by omega)
    have ee : gm_e K i = i + 1 := gm_E0e E0 (by omega)
    have e : len - (i + 1) = d := by omega
    have od : gm_od K (i + 1) = gm_od K i := gm_od_n (by omega) (by omega)
    refine ⟨i + 1, by omega, by omega, E0, gm_cs_1 ⟨?_, by omega, by omega⟩ gm_cs_0, od, fun x x1 x2 => ?_, by rw [e]; exact h2⟩
    · refine ⟨by rw [ee]; omega, by rw [ee]; omega, gm_lam ee (gm_cs_0 (len := len) (b := 26)), fun h => ?_, fun h => ?_, fun h => ?_, fun h => ?_, fun h => ?_, fun h => ?_, fun h => ?_, fun h => ?_, fun h => ?_, fun h => ?_, fun h => ?_, fun h => ?_, fun h => ?_, fun h => ?_, fun h => ?_, fun h => ?_⟩
      all_goals first | (exfalso; omega) | skip
      · omega
      · exact ⟨ee, gm_bpw hw (by omega) h2⟩
    · rcases Nat.eq_or_lt_of_le x1 with z | z
      · rw [z]; exact Int.le_refl _
      · have : x = i + 1 := by omega
        rw [this, od]; exact Int.le_refl _
  rw [if_neg h20] at h1
  by_cases h21 : K i = 21
  · rw [if_pos h21] at h1
    cases h1
    obtain ⟨j, a1, a2, E2, C, hE, cs, od1, od2, ac⟩ := hB d (i + 1) (Nat.le_refl _) (by omega) h2
    have E0 : gm_E0 K i j := gm_E0_el h21 a1 E2
    have ee : gm_e K i = j := gm_E0e E0 (by omega)
    have hf : ∀ x, i + 1 ≤ x → x ≤ i + 1 → gm_od K x = gm_od K i + 1 := fun x x1 x2 => by
      have : x = i + 1 := by omega
      rw [this]; exact gm_od_o (Or.inl h21)
    obtain ⟨op, Le, oj, ox⟩ := gm_opn hl hw (Or.inl h21) (by omega) hf (gm_bpw (w := 1) (by omega) (by omega) h2) E0 a1 a2 C hE od1 od2 ac
    have e9 : gm_e K (j - 1) ≤ j := by have := gm_E0e (gm_E0_leaf (K := K) (i := j - 1) (by omega)) (by omega); omega
    have csj : gm_cs K len 26 (i + 1) j := gm_cs_2 (by omega) cs (fun c c1 c2 => by
      have : c = j - 1 := by omega
      subst this
      exact ⟨Le, by omega, e9⟩)
    refine ⟨j, by omega, a2, E0, gm_cs_1 ⟨?_, by omega, by omega⟩ csj, oj, ox, ac⟩
    · refine ⟨by rw [ee]; omega, by rw [ee]; omega, gm_lam ee csj, fun h => ?_, fun h => ?_, fun h => ?_, fun h => ?_, fun h => ?_, fun h => ?_, fun h => ?_, fun h => ?_, fun h => ?_, fun h => ?_, fun h => ?_, fun h => ?_, fun h => ?_, fun h => ?_, fun h => ?_, fun h => ?_⟩
      all_goals first | (exfalso; omega) | skip
      · omega
      · exact op
  rw [if_neg h21] at h1
  by_cases h22 : K i = 22
  · rw [if_pos h22] at h1
    cases h1
    obtain ⟨k1, j, a1, a2, E, cs, ac⟩ := gm_N2 hl hK d (i + 1) (w :: s) (by omega) h2
    have E0 : gm_E0 K i j := gm_E0_one (by omega) a1 E
    have ee : gm_e K i = j := gm_E0e E0 (by omega)
    have e1 : gm_e K (i + 1) = j := gm_E0e E (by omega)
    have od0 : gm_od K (i + 1) = gm_od K i := gm_od_n (by omega) (by omega)
    have od : ∀ x, i ≤ x → x ≤ j → gm_od K x = gm_od K i := fun x x1 x2 => by
      rcases Nat.eq_or_lt_of_le x1 with z | z
      · rw [z]
      · rw [← od0]; exact gm_od_flat' (fun c c1 c2 => (cs c c1 c2).2.1) z x2
    refine ⟨j, by omega, a2, E0, gm_cs_1 ⟨?_, by omega, by omega⟩ (gm_cs_b (by omega) cs), od j (by omega) (Nat.le_refl _), fun x x1 x2 => by rw [od x x1 x2]; exact Int.le_refl _, ac⟩
    refine ⟨by rw [ee]; omega, by rw [ee]; omega, gm_lam ee cs, fun h => ?_, fun h => ?_, fun h => ?_, fun h => ?_, fun h => ?_, fun h => ?_, fun h => ?_, fun h => ?_, fun h => ?_, fun h => ?_, fun h => ?_, fun h => ?_, fun h => ?_, fun h => ?_, fun h => ?_, fun h => ?_⟩
    all_goals first | (exfalso; omega) | skip
    · omega
    · rw [ee, e1]; exact ⟨k1, rfl, a1, gm_bpw hw (by omega) ac⟩
  rw [if_neg h22] at h1
  by_cases h23 : K i = 23
  · rw [if_pos h23] at h1
    cases h1
    obtain ⟨k1, j, a1, a2, E, cs, ac⟩ := gm_P3 hl hK d (i + 1) (w :: s) (by omega) h2
    have E0 : gm_E0 K i j := gm_E0_one (by omega) a1 E
    have ee : gm_e K i = j := gm_E0e E0 (by omega)
    have e1 : gm_e K (i + 1) = j := gm_E0e E (by omega)
    have od0 : gm_od K (i + 1) = gm_od K i := gm_od_n (by omega) (by omega)
    have od : ∀ x, i ≤ x → x ≤ j → gm_od K x = gm_od K i := fun x x1 x2 => by
      rcases Nat.eq_or_lt_of_le x1 with z | z
      · rw [z]
      · rw [← od0]; exact gm_od_flat' (fun c c1 c2 => (cs c c1 c2).2.1) z x2
    refine ⟨j, by omega, a2, E0, gm_cs_1 ⟨?_, by omega, by omega⟩ (gm_cs_b (by omega) cs), od j (by omega) (Nat.le_refl _), fun x x1 x2 => by rw [od x x1 x2]; exact Int.le_refl _, ac⟩
    refine ⟨by rw [ee]; omega, by rw [ee]; omega, gm_lam ee cs, fun h => ?_, fun h => ?_, fun h => ?_, fun h => ?_, fun h => ?_, fun h => ?_, fun h => ?_, fun h => ?_, fun h => ?_, fun h => ?_, fun h => ?_, fun h => ?_, fun h => ?_, fun h => ?_, fun h => ?_, fun h => ?_⟩
    all_goals first | (exfalso; omega) | skip
    · omega
    · rw [ee, e1]; exact ⟨k1, rfl, a1, gm_bpw hw (by omega) ac⟩
  rw [if_neg h23] at h1
  have both : ∀ j1, i + 1 < j1 → j1 ≤ len → gm_E0 K (i + 1) j1 → gm_cs K len 17 (i + 1) j1 → gm_ac K (len - j1) j1 (1 :: w :: s) → (K i = 24 ∨ K i = 25) → (K i = 24 → K (i + 1) ≤ 14) → (K i = 25 → K (i + 1) = 15) → gm_X K len w i s := fun j1 a1 a2 E cs1 ac1 hio k24 k25 => by
    obtain ⟨j, c1, c2, E2, C, hE, cs, od1, od2, ac⟩ := hB (len - j1) j1 (by omega) (by omega) ac1
    have E0 : gm_E0 K i j := gm_E0_if hio a1 c1 E E2
    have ee : gm_e K i = j := gm_E0e E0 (by omega)
    have e1 : gm_e K (i + 1) = j1 := gm_E0e E (by omega)
    have od0 : gm_od K (i + 1) = gm_od K i + 1 := gm_od_o (Or.inr hio)
    have hf : ∀ x, i + 1 ≤ x → x ≤ j1 → gm_od K x = gm_od K i + 1 := fun x x1 x2 => by
      rw [← od0]; exact gm_od_flat' (fun c c1 c2 => (cs1 c c1 c2).2.1) x1 x2
    obtain ⟨op, Le, oj, ox⟩ := gm_opn hl hw (Or.inr hio) (by omega) hf (gm_bpw (w := 1) (by omega) (by omega) ac1) E0 c1 c2 C hE od1 od2 ac
    have e9 : gm_e K (j - 1) ≤ j := by have := gm_E0e (gm_E0_leaf (K := K) (i := j - 1) (by omega)) (by omega); omega
    have csj : gm_cs K len 26 (i + 1) j := gm_cs_2 (by omega) (gm_cs_b (by omega) cs1) (gm_cs_2 (by omega) cs (fun c c1 c2 => by
      have : c = j - 1 := by omega
      subst this
      exact ⟨Le, by omega, e9⟩))
    refine ⟨j, by omega, c2, E0, gm_cs_1 ⟨?_, by omega, by omega⟩ csj, oj, ox, ac⟩
    · refine ⟨by rw [ee]; omega, by rw [ee]; omega, gm_lam ee csj, fun h => ?_, fun h => ?_, fun h => ?_, fun h => ?_, fun h => ?_, fun h => ?_, fun h => ?_, fun h => ?_, fun h => ?_, fun h => ?_, fun h => ?_, fun h => ?_, fun h => ?_, fun h => ?_, fun h => ?_, fun h => ?_⟩
      · exfalso; omega
      · exfalso; omega
      · exfalso; omega
      · exfalso; omega
      · exfalso; omega
      · exfalso; omega
      · omega
      · exfalso; omega
      · exfalso; omega
      · exfalso; omega
      · exfalso; omega
      · exfalso; omega
      · rw [e1]; exact ⟨k24 h, a1, op⟩
      · rw [e1]; exact ⟨k25 h, a1, op⟩
      · exfalso; omega
      · exfalso; omega
  by_cases h24 : K i = 24
  · rw [if_pos h24] at h1
    cases h1
    obtain ⟨k1, j1, a1, a2, E, cs1, ac1⟩ := gm_N2 hl hK d (i + 1) (1 :: w :: s) (by omega) h2
    exact both j1 a1 a2 E cs1 ac1 (Or.inl h24) (fun _ => k1) (fun z => by omega)
  rw [if_neg h24] at h1
  have h25 : K i = 25 := by omega
  rw [if_pos h25] at h1
  cases h1
  obtain ⟨k1, j1, a1, a2, E, cs1, ac1⟩ := gm_P3 hl hK d (i + 1) (1 :: w :: s) (by omega) h2
  exact both j1 a1 a2 E cs1 ac1 (Or.inr h25) (fun z => by omega) (fun _ => k1)
theorem gm_B1 {K : Nat → Nat} {len : Nat} (hl : len ≤ 30) (hK : K len = 27) : ∀ d i w s, w ≤ 1 → i + d = len → gm_ac K d i (1 :: w :: s) → gm_B K len w i s := by
  intro d
  induction d using Nat.strongRecOn with
  | _ d ih =>
    intro i w s hw hi h
    cases d with
    | zero => have := h 1 (by simp); omega
    | succ d =>
      have hbp := gm_bpw (w := 1) (by omega) hi h
      have hlt : 20 ≤ K i ∧ K i ≤ 26 := by
        rcases hbp with z | z
        · omega
        · exact z.2
      by_cases h26 : K i = 26
      · obtain ⟨s', h1, h2⟩ := h
        rw [gm_stB _ _ _ (by omega), if_neg (by omega), if_neg (by omega), if_neg (by omega), if_neg (by omega), if_neg (by omega), if_neg (by omega), if_pos ⟨h26, rfl⟩] at h1
        cases h1
        have e : len - (i + 1) = d := by omega
        refine ⟨i + 1, by omega, by omega, gm_E2_0 h26, ?_, h26, gm_cs_0, rfl, fun x x1 x2 => ?_, by rw [e]; exact h2⟩
        · have e1 : i + 1 - i = 0 + 1 := by omega
          rw [e1]; exact Or.inl ⟨h26, rfl⟩
        · have : x = i := by omega
          rw [this]; exact Int.le_refl _
      · obtain ⟨j1, a1, a2, E, cs1, od1, ox1, ac1⟩ := gm_el (w := 1) (s := w :: s) hl hK (by omega) (fun d' i' hd hi' h' => ih d' (by omega) i' 1 (w :: s) (by omega) hi' h') i hi ⟨hlt.1, by omega⟩ h
        obtain ⟨j, c1, c2, E2, C, hE, cs2, od2, ox2, ac2⟩ := ih (len - j1) (by omega) j1 w s hw (by omega) ac1
        have ee : gm_e K i = j1 := gm_E0e E (by omega)
        refine ⟨j, by omega, c2, gm_E2_s h26 a1 c1 E E2, ?_, hE, gm_cs_2 (by omega) cs1 cs2, by rw [od2, od1], fun x x1 x2 => ?_, ac2⟩
        · obtain ⟨f, hf⟩ : ∃ f, j - i = f + 1 := ⟨j - i - 1, by omega⟩
          rw [hf]
          refine Or.inr ⟨hlt.1, by omega, by rw [ee]; exact a1, by rw [ee]; exact c1, ?_⟩
          rw [ee]
          exact gm_ch_up _ _ _ (by omega) C
        · rcases Nat.le_total x j1 with z | z
          · exact ox1 x x1 z
          · have := ox2 x z x2
            rw [od1] at this
            exact this
theorem gm_B0 {K : Nat → Nat} {len : Nat} (hl : len ≤ 30) (hK : K len = 27) : ∀ d i, i + d = len → gm_ac K d i [0] → gm_cs K len 26 i len := by
  intro d
  induction d using Nat.strongRecOn with
  | _ d ih =>
    intro i hi h
    cases d with
    | zero =>
      have e : i = len := by omega
      subst e
      exact gm_cs_0
    | succ d =>
      have hlt : 20 ≤ K i ∧ K i ≤ 26 := by
        rcases gm_bpw (w := 0) (by omega) hi h with z | z
        · omega
        · exact z.2
      by_cases h26 : K i = 26
      · obtain ⟨s', h1, h2⟩ := h
        rw [gm_stB _ _ _ (by omega), if_neg (by omega), if_neg (by omega), if_neg (by omega), if_neg (by omega), if_neg (by omega), if_neg (by omega), if_neg (by omega)] at h1
        exact nomatch h1
      · obtain ⟨j, a1, a2, E, cs, _, _, ac⟩ := gm_el (w := 0) (s := []) hl hK (by omega) (fun d' i' _ hi' h' => gm_B1 hl hK d' i' 0 [] (by omega) hi' h') i hi ⟨hlt.1, by omega⟩ h
        exact gm_cs_2 a2 cs (ih (len - j) (by omega) j (by omega) ac)
/-- an allowed text: its tokens, then nothing but 27 -/
def gm_W (K : Nat → Nat) (len : Nat) : Prop := len ≤ 30 ∧ (∀ i, len ≤ i → K i = 27) ∧ ∀ c, c < len → gm_L K len c
theorem gm_W_rule {K : Nat → Nat} {len : Nat} (hl : len ≤ 30) (hK : ∀ i, len ≤ i → K i = 27) (h : gm_ac K len 0 [3, 0]) : gm_W K len ∧ K 0 = 15 ∧ 0 < gm_e K 0 ∧ gm_e K 0 ≤ len ∧ gm_bp K len (gm_e K 0) := by
  obtain ⟨k, j, a1, a2, E, cs, ac⟩ := gm_P3 hl (hK len (Nat.le_refl _)) len 0 [0] (by omega) h
  have ee : gm_e K 0 = j := gm_E0e E (by omega)
  have b := gm_B0 hl (hK len (Nat.le_refl _)) (len - j) j (by omega) ac
  refine ⟨⟨hl, hK, fun c hc => ?_⟩, k, by rw [ee]; exact a1, by rw [ee]; exact a2, by rw [ee]; exact gm_bpw (w := 0) (by omega) (by omega) ac⟩
  exact (gm_cs_2 a2 (gm_cs_b (by omega) cs) b c (by omega) hc).1
theorem gm_ac_nil {K : Nat → Nat} {len j : Nat} (hj : j ≤ len) (h : gm_ac K (len - j) j []) : j = len := by
  rcases Nat.eq_or_lt_of_le hj with z | z
  · exact z
  · obtain ⟨m, hm⟩ : ∃ m, len - j = m + 1 := ⟨len - j - 1, by omega⟩
    rw [hm] at h
    obtain ⟨s', h1, _⟩ := h
    exact nomatch h1
theorem gm_W_sel {K : Nat → Nat} {len : Nat} (hl : len ≤ 30) (hK : ∀ i, len ≤ i → K i = 27) (h : gm_ac K len 0 [3]) : gm_W K len ∧ K 0 = 15 ∧ gm_e K 0 = len ∧ 0 < len ∧ ∀ c, c < len → K c ≤ 17 := by
  obtain ⟨k, j, a1, a2, E, cs, ac⟩ := gm_P3 hl (hK len (Nat.le_refl _)) len 0 [] (by omega) h
  have ee : gm_e K 0 = j := gm_E0e E (by omega)
  have ej := gm_ac_nil a2 ac
  subst ej
  exact ⟨⟨hl, hK, fun c hc => (cs c (by omega) hc).1⟩, k, ee, a1, fun c hc => (cs c (by omega) hc).2.1⟩
theorem gm_W_num {K : Nat → Nat} {len : Nat} (hl : len ≤ 30) (hK : ∀ i, len ≤ i → K i = 27) (h : gm_ac K len 0 [2]) : gm_W K len ∧ K 0 ≤ 14 ∧ gm_e K 0 = len ∧ 0 < len ∧ ∀ c, c < len → K c ≤ 17 := by
  obtain ⟨k, j, a1, a2, E, cs, ac⟩ := gm_N2 hl (hK len (Nat.le_refl _)) len 0 [] (by omega) h
  have ee : gm_e K 0 = j := gm_E0e E (by omega)
  have ej := gm_ac_nil a2 ac
  subst ej
  exact ⟨⟨hl, hK, fun c hc => (cs c (by omega) hc).1⟩, k, ee, a1, fun c hc => (cs c (by omega) hc).2.1⟩
