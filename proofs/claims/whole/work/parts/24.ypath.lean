/-! the reference: what a path selects; numbers; the end of a number -/
variable {g_nodes g_inner g_rules g_place g_listed g_depth g_row g_pc g_node g_position g_size g_fault g_put g_steps : Int32} {b_name b_parent b_value b_kind b_with b_count b_bodyAt b_priority b_given b_there b_wanted b_waiting b_within b_list b_left b_reached b_sizes b_each b_backRow b_backPc b_backNode b_backPosition b_backSize b_output : Nat → Int32}
theorem yw_path64 {post : Int32 → SY → Prop} {J16 J29 : Int32 → Int32 → Int32 → Int32 → Int32 → Int32 → Int32 → Int32 → Int32 → Int32 → Int32 → Int32 → Int32 → Int32 → Int32 → Int32 → (Nat → Int32) → (Nat → Int32) → (Nat → Int32) → (Nat → Int32) → (Nat → Int32) → (Nat → Int32) → (Nat → Int32) → (Nat → Int32) → (Nat → Int32) → (Nat → Int32) → (Nat → Int32) → (Nat → Int32) → (Nat → Int32) → (Nat → Int32) → (Nat → Int32) → (Nat → Int32) → (Nat → Int32) → (Nat → Int32) → (Nat → Int32) → (Nat → Int32) → (Nat → Int32) → (Nat → Int32) → (Nat → Int32) → (Nat → Int32) → Prop} {x4 x5 x6 : Int32} {a n : Nat} {L : List Nat} {r0 : Int32} (hn : n ≤ 24) (hL : ∀ m, m ∈ L → m < n) (h24 : L.length ≤ 24) (hla : la b_list L)
    (hJ : ∀ r, (∀ i, i < 32 → (bt r i = true ↔ bt r0 i = true ∨ i ∈ L)) → J29 r (nI (a + 1)) g_nodes g_inner g_rules g_place (nI L.length) g_depth g_row g_pc g_node g_position g_size g_fault g_put g_steps b_name b_parent b_value b_kind b_with b_count b_bodyAt b_priority b_given b_there b_wanted b_waiting b_within b_list b_left b_reached b_sizes b_each b_backRow b_backPc b_backNode b_backPosition b_backSize b_output) :
    ∀ d k f r, k + d = L.length → d < f → (∀ i, i < 32 → ((bt r i = true ∨ i ∈ L.drop k) ↔ (bt r0 i = true ∨ i ∈ L))) → wY_path_64 post J16 J29 x4 x5 x6 (nI a) g_nodes g_inner g_rules g_place (nI L.length) g_depth g_row g_pc g_node g_position g_size g_fault g_put g_steps b_name b_parent b_value b_kind b_with b_count b_bodyAt b_priority b_given b_there b_wanted b_waiting b_within b_list b_left b_reached b_sizes b_each b_backRow b_backPc b_backNode b_backPosition b_backSize b_output f r (nI k) := by
  intro d
  induction d with
  | zero =>
    intro k f r hk hf hr
    obtain ⟨f, rfl⟩ : ∃ x, f = x + 1 := ⟨f - 1, by omega⟩
    have e' : k = L.length := by omega
    subst e'
    have e0 : L.drop L.length = [] := List.drop_eq_nil_of_le (Nat.le_refl _)
    refine br_t (nI_le (Nat.le_refl _) (by omega)) (nm_r (nI_1 a) (hJ r fun i hi => ?_))
    rw [← hr i hi, e0]
    exact ⟨Or.inl, fun z => z.elim id (fun y => by simp at y)⟩
  | succ d ih =>
    intro k f r hk hf hr
    obtain ⟨f, rfl⟩ : ∃ x, f = x + 1 := ⟨f - 1, by omega⟩
    have kl : k < L.length := by omega
    have td : L.drop k = L[k] :: L.drop (k + 1) := List.drop_eq_getElem_cons kl
    have hm : L[k] < n := hL _ (List.getElem_mem kl)
    have bk : b_list k = nI L[k] := hla k _ (by simp)
    generalize L[k] = m at td hm bk
    refine br_f (nI_ge (by omega) (by omega)) ⟨vp_in_nI (by omega) (by omega), nm_r (e' := r ||| ((1 : Int32) <<< (nI m &&& 31))) (by rw [nI_clamp (by omega), bk]) (nm_r (nI_1 k) (ih (k + 1) f _ (by omega) (by omega) fun i hi => ?_))⟩
    have := hr i hi
    rw [td, List.mem_cons] at this
    rw [← this, ms_set r (by omega) hi, Bool.or_eq_true, decide_eq_true_eq]
    constructor
    · rintro ((z | z) | z)
      · exact Or.inl z
      · exact Or.inr (Or.inl z)
      · exact Or.inr (Or.inr z)
    · rintro (z | z | z)
      · exact Or.inl (Or.inl z)
      · exact Or.inl (Or.inr z)
      · exact Or.inr z
theorem nu_Ll {K : Nat → Nat} {O V : Nat → Int32} {tb : Nat → Nat → Int32} : ∀ {f c : Nat} {L : List Nat}, (nu_cd K O V tb f c L).length ≤ L.length
  | 0, _, _ => Nat.le_refl _
  | f + 1, c, L => by
    rw [nu_cd]
    split
    · exact Nat.le_trans nu_Ll ls_fl
    · exact Nat.le_refl _
theorem nu_L24 {K : Nat → Nat} {O V P N : Nat → Int32} {n : Nat} {tb : Nat → Nat → Int32} {c a : Nat} (hn : n ≤ 24) : (nu_L K O V P N n tb c a).length ≤ 24 := by
  refine Nat.le_trans nu_Ll (Nat.le_trans (List.length_filter_le _ _) ?_)
  unfold ls_T
  split <;> simp <;> exact hn
theorem yw_path29 {post : Int32 → SY → Prop} {J : Int32 → Int32 → Int32 → Int32 → Int32 → Int32 → Int32 → Int32 → Int32 → Int32 → Int32 → Int32 → Int32 → Int32 → Int32 → Int32 → (Nat → Int32) → (Nat → Int32) → (Nat → Int32) → (Nat → Int32) → (Nat → Int32) → (Nat → Int32) → (Nat → Int32) → (Nat → Int32) → (Nat → Int32) → (Nat → Int32) → (Nat → Int32) → (Nat → Int32) → (Nat → Int32) → (Nat → Int32) → (Nat → Int32) → (Nat → Int32) → (Nat → Int32) → (Nat → Int32) → (Nat → Int32) → (Nat → Int32) → (Nat → Int32) → (Nat → Int32) → (Nat → Int32) → (Nat → Int32) → Prop} {S : Int32} {K : Nat → Nat} {O : Nat → Int32} {len y q n c v : Nat} {tb : Nat → Nat → Int32} (W : gm_W K len) (hy : y + 30 ≤ 210) (hk : ys_k b_kind b_with y K O len) (T : tr_T b_parent n) (hov : ∀ x, x < len → K x = 15 → ∃ v, v < 72 ∧ O x = nI v)
    (TE : ∀ c, c < len → nu_TE K O b_value b_parent b_name len n tb c) (hc : c < len) (hq : q ≤ gm_e K c) (C : gm_cd K len (q - (c + 1)) (c + 1) q) (hs : K q ≠ 15 → gm_e K c = q) (ho : O c = nI v) (hv : v < 72)
    (hJ : ∀ r gl bl bw, (∀ i, i < 32 → (bt r i = true ↔ ∃ a, a < n ∧ bt S a = true ∧ i ∈ nu_L K O b_value b_parent b_name n tb c a)) → J r (nI (y + q)) (nI n) g_inner g_rules g_place gl g_depth g_row g_pc g_node g_position g_size g_fault g_put g_steps b_name b_parent b_value b_kind b_with b_count b_bodyAt b_priority b_given b_there b_wanted b_waiting bw bl b_left b_reached b_sizes b_each b_backRow b_backPc b_backNode b_backPosition b_backSize b_output) :
    ∀ d a f r gl bl bw, a + d = n → d < f → (∀ i, i < 32 → (bt r i = true ↔ ∃ b, b < a ∧ bt S b = true ∧ i ∈ nu_L K O b_value b_parent b_name n tb c b)) → wY_path_29 post J S (nI (y + gm_e K c)) (nI (y + c)) f r (nI a) (nI n) g_inner g_rules g_place gl g_depth g_row g_pc g_node g_position g_size g_fault g_put g_steps b_name b_parent b_value b_kind b_with b_count b_bodyAt b_priority b_given b_there b_wanted b_waiting bw bl b_left b_reached b_sizes b_each b_backRow b_backPc b_backNode b_backPosition b_backSize b_output := by
  have hn := T.1
  have hel := (W.2.2 c hc).2.1
  intro d
  induction d with
  | zero =>
    intro a f r gl bl bw ha hf hr
    obtain ⟨f, rfl⟩ : ∃ x, f = x + 1 := ⟨f - 1, by omega⟩
    have e' : a = n := by omega
    subst e'
    exact br_t (nI_le (Nat.le_refl _) (by omega)) (yw_pathStep W hy hk hc hq C hs (hJ r gl bl bw hr))
  | succ d ih =>
    intro a f r gl bl bw ha hf hr
    obtain ⟨f, rfl⟩ : ∃ x, f = x + 1 := ⟨f - 1, by omega⟩
    refine br_f (nI_ge (by omega) (by omega)) ?_
    cases hb : bt S a
    · refine br_t (ms_f (by omega) hb) (nm_r (nI_1 a) (ih (a + 1) f r gl bl bw (by omega) (by omega) fun i hi => (hr i hi).trans ⟨fun ⟨b, b1, b2⟩ => ⟨b, by omega, b2⟩, fun ⟨b, b1, b2, b3⟩ => ⟨b, ?_, b2, b3⟩⟩))
      rcases Nat.lt_or_ge b a with z | z
      · exact z
      · have : b = a := by omega
        rw [this, hb] at b2
        exact nomatch b2
    · refine br_f (ms_t (by omega) hb) (yw_listOf (b_list := bl) (b_within := bw) (g_listed := gl) W hy hk T hov TE hel hq hc C ho hv (show a < n by omega) fun bl' bw' hla => ?_)
      refine ⟨25, yw_path64 (r0 := r) hn (fun m hm => nu_Lm hm) (nu_L24 hn) hla (fun r' hr' => ih (a + 1) f r' _ bl' bw' (by omega) (by omega) fun i hi => ?_) _ 0 25 r (Nat.zero_add _) (by have := nu_L24 (K := K) (O := O) (V := b_value) (P := b_parent) (N := b_name) (tb := tb) (c := c) (a := a) hn; omega) fun i hi => by rw [List.drop_zero]⟩
      rw [hr' i hi, hr i hi]
      constructor
      · rintro (⟨b, b1, b2⟩ | z)
        · exact ⟨b, by omega, b2⟩
        · exact ⟨a, by omega, hb, z⟩
      · rintro ⟨b, b1, b2, b3⟩
        rcases Nat.lt_or_ge b a with z | z
        · exact Or.inl ⟨b, z, b2, b3⟩
        · have : b = a := by omega
          rw [this] at b3
          exact Or.inr b3
theorem yw_path16 {post : Int32 → SY → Prop} {ans : Int32} {K : Nat → Nat} {O : Nat → Int32} {len y en n : Nat} {tb : Nat → Nat → Int32} (W : gm_W K len) (hy : y + 30 ≤ 210) (hk : ys_k b_kind b_with y K O len) (T : tr_T b_parent n) (hov : ∀ x, x < len → K x = 15 → ∃ v, v < 72 ∧ O x = nI v)
    (TE : ∀ c, c < len → nu_TE K O b_value b_parent b_name len n tb c) (hen : en ≤ len)
    (hp : ∀ gl bl bw, post ans (nI n, g_inner, g_rules, g_place, gl, g_depth, g_row, g_pc, g_node, g_position, g_size, g_fault, g_put, g_steps, b_name, b_parent, b_value, b_kind, b_with, b_count, b_bodyAt, b_priority, b_given, b_there, b_wanted, b_waiting, bw, bl, b_left, b_reached, b_sizes, b_each, b_backRow, b_backPc, b_backNode, b_backPosition, b_backSize, b_output)) :
    ∀ d j f S gl bl bw, en - j ≤ d → d < f → j ≤ en → (K j = 15 → gm_e K j = en ∧ pa_I n tb S j ans) → (K j ≠ 15 → j = en ∧ S = ans) → wY_path_16 post (nI (y + en)) f S (nI (y + j)) (nI n) g_inner g_rules g_place gl g_depth g_row g_pc g_node g_position g_size g_fault g_put g_steps b_name b_parent b_value b_kind b_with b_count b_bodyAt b_priority b_given b_there b_wanted b_waiting bw bl b_left b_reached b_sizes b_each b_backRow b_backPc b_backNode b_backPosition b_backSize b_output := by
  have hn := T.1
  have hl := W.1
  intro d
  induction d with
  | zero =>
    intro j f S gl bl bw hj hf hje i1 i2
    obtain ⟨f, rfl⟩ : ∃ x, f = x + 1 := ⟨f - 1, by omega⟩
    have e : j = en := by omega
    subst e
    have n15 : K j ≠ 15 := fun z => by
      have a := (i1 z).1
      rcases Nat.lt_or_ge j len with q | q
      · have := (W.2.2 j q).1; omega
      · have := W.2.1 j q; omega
    rw [(i2 n15).2]
    exact br_t (nI_le (Nat.le_refl _) (by omega)) (hp gl bl bw)
  | succ d ih =>
    intro j f S gl bl bw hj hf hje i1 i2
    obtain ⟨f, rfl⟩ : ∃ x, f = x + 1 := ⟨f - 1, by omega⟩
    by_cases k15 : K j = 15
    · obtain ⟨g1, g2⟩ := i1 k15
      have jl : j < len := by
        rcases Nat.lt_or_ge j len with q | q
        · exact q
        · have := W.2.1 j q; omega
      have glt := (W.2.2 j jl).1
      obtain ⟨v, hv, ho⟩ := hov j jl k15
      obtain ⟨q, C, q1, q2, q3, q4, q5, q6, q7⟩ := (W.2.2 j jl).2.2.2.2.2.2.2.1 k15
      subst g1
      refine br_f (nI_ge (by omega) (by omega)) ⟨n + 1, yw_path29 W hy hk T hov TE jl q2 C q5 ho hv (fun r gl' bl' bw' hr => ?_) n 0 (n + 1) 0 gl bl bw (by omega) (by omega) fun i hi => ⟨fun z => absurd z (by rw [b_0]; decide), fun ⟨b, b1, _⟩ => absurd b1 (by omega)⟩⟩
      have st := pa_step (S' := r) hn (TE j jl) k15 C g2 hr
      refine ih q f r gl' bl' bw' (by omega) (by omega) q2 (fun z => ⟨(q4 z).1.symm, st.1 z⟩) (fun z => ⟨(q5 z).symm, st.2 z⟩)
    · obtain ⟨e, e2⟩ := i2 k15
      rw [e, e2]
      exact br_t (nI_le (Nat.le_refl _) (by omega)) (hp gl bl bw)
theorem yw_path {post : Int32 → SY → Prop} {K : Nat → Nat} {O : Nat → Int32} {len y en n i a : Nat} {tb : Nat → Nat → Int32} (W : gm_W K len) (hy : y + 30 ≤ 210) (hk : ys_k b_kind b_with y K O len) (T : tr_T b_parent n) (hov : ∀ x, x < len → K x = 15 → ∃ v, v < 72 ∧ O x = nI v)
    (TE : ∀ c, c < len → nu_TE K O b_value b_parent b_name len n tb c) (hen : en ≤ len) (k15 : K i = 15) (he : gm_e K i ≤ en) (hi : i < len) (ha : a < n)
    (hp : ∀ gl bl bw, post (tb i a) (nI n, g_inner, g_rules, g_place, gl, g_depth, g_row, g_pc, g_node, g_position, g_size, g_fault, g_put, g_steps, b_name, b_parent, b_value, b_kind, b_with, b_count, b_bodyAt, b_priority, b_given, b_there, b_wanted, b_waiting, bw, bl, b_left, b_reached, b_sizes, b_each, b_backRow, b_backPc, b_backNode, b_backPosition, b_backSize, b_output)) : wpY_path post (nI n, g_inner, g_rules, g_place, g_listed, g_depth, g_row, g_pc, g_node, g_position, g_size, g_fault, g_put, g_steps, b_name, b_parent, b_value, b_kind, b_with, b_count, b_bodyAt, b_priority, b_given, b_there, b_wanted, b_waiting, b_within, b_list, b_left, b_reached, b_sizes, b_each, b_backRow, b_backPc, b_backNode, b_backPosition, b_backSize, b_output) (nI (y + i)) (nI (y + en)) (nI a) := by
  have glt := (W.2.2 i hi).1
  exact nm_e (yw_pathEnd W hy hk hen k15 he ⟨gm_e K i + 1, yw_path16 W hy hk T hov TE (W.2.2 i hi).2.1 hp (gm_e K i) i _ _ g_listed b_list b_within (by omega) (by omega) (by omega) (fun _ => ⟨rfl, pa_0 T.1 ha⟩) (fun z => absurd k15 z)⟩)
/-- m numbers stand from i to t -/
def ne_C (K : Nat → Nat) (len t : Nat) : Nat → Nat → Prop
  | 0, i => i = t
  | m + 1, i => K i ≤ 14 ∧ i < len ∧ gm_e K i ≤ t ∧ ne_C K len t m (gm_e K i)
theorem ne_ge {K : Nat → Nat} {len t : Nat} (W : gm_W K len) : ∀ {m i : Nat}, ne_C K len t m i → i + m ≤ t
  | 0, i, h => by rw [ne_C] at h; omega
  | m + 1, i, ⟨_, h2, _, h4⟩ => by
    have := ne_ge W h4
    have := (W.2.2 i h2).1
    omega
theorem yw_numberEnd_l {post : Int32 → Prop} {K : Nat → Nat} {O : Nat → Int32} {len y en t : Nat} (W : gm_W K len) (hy : y + 30 ≤ 210) (hk : ys_k b_kind b_with y K O len) (hen : en ≤ len) (ht : t ≤ en) (hp : post (nI (y + t))) :
    ∀ d i m f, t - i ≤ d → d < f → ne_C K len t m i → wY_numberEnd_5 post (nI (y + en)) g_nodes g_inner g_rules g_place g_listed g_depth g_row g_pc g_node g_position g_size g_fault g_put g_steps b_name b_parent b_value b_kind b_with b_count b_bodyAt b_priority b_given b_there b_wanted b_waiting b_within b_list b_left b_reached b_sizes b_each b_backRow b_backPc b_backNode b_backPosition b_backSize b_output f (nI (y + i)) (nI m) := by
  have hl := W.1
  intro d
  induction d with
  | zero =>
    intro i m f hi hf h
    obtain ⟨f, rfl⟩ : ∃ x, f = x + 1 := ⟨f - 1, by omega⟩
    have g := ne_ge W h
    have m0 : m = 0 := by omega
    subst m0
    have e : i = t := h
    subst e
    exact br_t (by decide) hp
  | succ d ih =>
    intro i m f hi hf h
    obtain ⟨f, rfl⟩ : ∃ x, f = x + 1 := ⟨f - 1, by omega⟩
    cases m with
    | zero =>
      have e : i = t := h
      subst e
      exact br_t (by decide) hp
    | succ m =>
      have g0 := ne_ge W h
      obtain ⟨k14, il, h3, h4⟩ := h
      have g := ne_ge W h4
      have L := W.2.2 i il
      have L1 := L.1
      have e1 : nI (y + i) + 1 = nI (y + (i + 1)) := by rw [nI_1, Nat.add_assoc]
      have em : nI (m + 1) + (-1) = nI m := pk_m1 m
      refine br_f (nI_nle (by omega) (by omega)) (nm_r e1 ⟨vp_in_nI (by omega) (by omega), nm_r (e' := nI (K i)) (by rw [nI_clamp (by omega)]; exact (hk i il).1) ?_⟩)
      by_cases k6 : K i ≤ 6
      · refine br_t (nI_le (b := 6) k6 (by omega)) (br_f (fun z => ?_) (nm_r em ?_))
        · have := (yw_knk W (k := 14) (by omega)).mp z; omega
        · by_cases k3 : K i ≤ 3
          · refine br_t (nI_le (b := 3) k3 (by omega)) ?_
            rw [← L.2.2.2.1 k3]
            exact ih (gm_e K i) m f (by omega) (by omega) h4
          · obtain ⟨p1, p2, p3⟩ := L.2.2.2.2.1 ⟨by omega, k6⟩
            refine br_f (nI_ge (b := K i) (a := 3) (by omega) (by omega)) (br_f (nI_ge (b := 7) (by omega) (by omega)) (yw_pathEnd W hy hk hen p1 (by omega) ?_))
            rw [← p2]
            exact ih (gm_e K i) m f (by omega) (by omega) h4
      · refine br_f (nI_ge (b := K i) (a := 6) (by omega) (by omega)) ?_
        by_cases kk : K i = 14
        · obtain ⟨p1, p2, p3⟩ := L.2.2.2.2.2.2.1 kk
          rw [kk]
          refine br_t (by decide) (br_t (by decide) (nm_r (e' := nI (m + 1)) (Int32.add_zero _) (br_f (by decide) (br_t (by decide) ?_))))
          exact ih (i + 1) (m + 1) f (by omega) (by omega) ⟨p1, by omega, by rw [← p2]; exact h3, by rw [← p2]; exact h4⟩
        · obtain ⟨p1, p2, p3, p4, p5⟩ := L.2.2.2.2.2.1 ⟨by omega, by omega⟩
          refine br_f (nI_ge (b := 14) (by omega) (by omega)) (nm_r (nI_1 (m + 1)) (br_f (nI_ge (b := K i) (a := 3) (by omega) (by omega)) (br_t (nI_le (a := 7) (by omega) (by omega)) ?_)))
          exact ih (i + 1) (m + 2) f (by omega) (by omega) ⟨p1, by omega, by omega, p2, by omega, by rw [← p5]; exact h3, by rw [← p5]; exact h4⟩
theorem yw_numberEnd {post : Int32 → Prop} {K : Nat → Nat} {O : Nat → Int32} {len y en i : Nat} (W : gm_W K len) (hy : y + 30 ≤ 210) (hk : ys_k b_kind b_with y K O len) (hen : en ≤ len) (hi : i < len) (k14 : K i ≤ 14) (ht : gm_e K i ≤ en) (hp : post (nI (y + gm_e K i))) : wpY_numberEnd post (g_nodes, g_inner, g_rules, g_place, g_listed, g_depth, g_row, g_pc, g_node, g_position, g_size, g_fault, g_put, g_steps, b_name, b_parent, b_value, b_kind, b_with, b_count, b_bodyAt, b_priority, b_given, b_there, b_wanted, b_waiting, b_within, b_list, b_left, b_reached, b_sizes, b_each, b_backRow, b_backPc, b_backNode, b_backPosition, b_backSize, b_output) (nI (y + i)) (nI (y + en)) :=
  ⟨gm_e K i + 1, yw_numberEnd_l W hy hk hen ht hp (gm_e K i) i 1 _ (by omega) (by omega) ⟨k14, hi, Nat.le_refl _, rfl⟩⟩
