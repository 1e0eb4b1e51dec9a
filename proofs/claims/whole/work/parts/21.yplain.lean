/-! the reference: paths without conditions, numbers in a condition -/
variable {g_nodes g_inner g_rules g_place g_listed g_depth g_row g_pc g_node g_position g_size g_fault g_put g_steps : Int32} {b_name b_parent b_value b_kind b_with b_count b_bodyAt b_priority b_given b_there b_wanted b_waiting b_within b_list b_left b_reached b_sizes b_each b_backRow b_backPc b_backNode b_backPosition b_backSize b_output : Nat → Int32}
theorem yw_calc {post : Int32 → Prop} {k : Nat} {x y : Int32} (k7 : 7 ≤ k) (k13 : k ≤ 13) (hp : post (nu_c k x y)) : wpY_calculate post (g_nodes, g_inner, g_rules, g_place, g_listed, g_depth, g_row, g_pc, g_node, g_position, g_size, g_fault, g_put, g_steps, b_name, b_parent, b_value, b_kind, b_with, b_count, b_bodyAt, b_priority, b_given, b_there, b_wanted, b_waiting, b_within, b_list, b_left, b_reached, b_sizes, b_each, b_backRow, b_backPc, b_backNode, b_backPosition, b_backSize, b_output) (nI k) x y := by
  rcases (show k = 7 ∨ k = 8 ∨ k = 9 ∨ k = 10 ∨ k = 11 ∨ k = 12 ∨ k = 13 by omega) with rfl | rfl | rfl | rfl | rfl | rfl | rfl
  · exact br_f (by decide) (br_f (by decide) (br_t (by decide) (nc_7 hp)))
  · exact br_f (by decide) (br_f (by decide) (br_f (by decide) (br_t (by decide) (nc_8 hp))))
  · exact br_f (by decide) (br_f (by decide) (br_f (by decide) (br_f (by decide) (br_t (by decide) (nc_9 hp)))))
  · exact br_f (by decide) (br_f (by decide) (br_f (by decide) (br_f (by decide) (br_f (by decide) (br_t (by decide) (nc_10 hp))))))
  · exact br_f (by decide) (br_f (by decide) (br_f (by decide) (br_f (by decide) (br_f (by decide) (br_f (by decide) (br_t (by decide) (nc_11 hp)))))))
  · exact br_f (by decide) (br_f (by decide) (br_f (by decide) (br_f (by decide) (br_f (by decide) (br_f (by decide) (br_f (by decide) (br_t (by decide) (nc_12 hp))))))))
  · exact br_f (by decide) (br_t (by decide) (nc_13 hp))
/-- what is selected from the nodes of S by the path from j on is ans -/
def pa_I (n : Nat) (tb : Nat → Nat → Int32) (S : Int32) (j : Nat) (ans : Int32) : Prop := ∀ i, i < 32 → (bt ans i = true ↔ ∃ a, a < n ∧ bt S a = true ∧ bt (tb j a) i = true)
theorem pa_0 {n : Nat} {tb : Nat → Nat → Int32} {j a : Nat} (hn : n ≤ 24) (ha : a < n) : pa_I n tb ((1 : Int32) <<< (nI a &&& 31)) j (tb j a) := fun i hi => by
  constructor
  · intro z
    refine ⟨a, ha, ?_, z⟩
    rw [ms_1 a (by omega) a (by omega), decide_eq_true rfl]
  · rintro ⟨b, hb, h1, h2⟩
    rw [ms_1 a (by omega) b (by omega), decide_eq_true_eq] at h1
    rw [h1] at h2; exact h2
theorem pa_step {K : Nat → Nat} {O V P N : Nat → Int32} {len n j q : Nat} {tb : Nat → Nat → Int32} {S S' ans : Int32} (hn : n ≤ 24) (TE : nu_TE K O V P N len n tb j) (k15 : K j = 15) (C : gm_cd K len (q - (j + 1)) (j + 1) q) (I : pa_I n tb S j ans) (hS : ∀ i, i < 32 → (bt S' i = true ↔ ∃ a, a < n ∧ bt S a = true ∧ i ∈ nu_L K O V P N n tb j a)) :
    (K q = 15 → pa_I n tb S' q ans) ∧ (K q ≠ 15 → S' = ans) := by
  refine ⟨fun k i hi => ?_, fun k => b_ext fun i hi => xr_bool ?_⟩
  · rw [I i hi]
    constructor
    · rintro ⟨a, ha, h1, h2⟩
      rcases ((TE a ha).1 k15 q C i hi).mp h2 with ⟨_, m, hm, hb⟩ | ⟨z, _⟩
      · have := nu_Lm hm
        exact ⟨m, this, (hS m (by omega)).mpr ⟨a, ha, h1, hm⟩, hb⟩
      · exact absurd k z
    · rintro ⟨m, hm, h1, h2⟩
      obtain ⟨a, ha, h3, h4⟩ := (hS m (by omega)).mp h1
      exact ⟨a, ha, h3, ((TE a ha).1 k15 q C i hi).mpr (Or.inl ⟨k, m, h4, h2⟩)⟩
  · rw [hS i hi, I i hi]
    constructor
    · rintro ⟨a, ha, h1, h2⟩
      exact ⟨a, ha, h1, ((TE a ha).1 k15 q C i hi).mpr (Or.inr ⟨k, h2⟩)⟩
    · rintro ⟨a, ha, h1, h2⟩
      rcases ((TE a ha).1 k15 q C i hi).mp h2 with ⟨z, _⟩ | ⟨_, z⟩
      · exact absurd z k
      · exact ⟨a, ha, h1, z⟩
theorem pa_L0 {K : Nat → Nat} {O V P N : Nat → Int32} {n j v a m : Nat} {tb : Nat → Nat → Int32} (h16 : K (j + 1) ≠ 16) (ho : O j = nI v) (hv : v < 72) : m ∈ nu_L K O V P N n tb j a ↔ m < n ∧ tr_s P N v a m = true := by
  have oo : nu_o O j = v := by show (O j).toNatClampNeg = v; rw [ho]; exact nI_clamp (by omega)
  unfold nu_L
  rw [oo, show (32 : Nat) = 31 + 1 from rfl, nu_cd, if_neg h16, List.mem_filter, ls_Tm]
theorem yw_pp57 {post : Int32 → Prop} {J8 J32 : Int32 → Int32 → Prop} {x2 x4 : Int32} {n at' v a : Nat} (T : tr_T b_parent n) (hat : at' < 210) (hw : b_with at' = nI v) (hv : v < 72) (ha : a < n) {r0 : Int32}
    (hJ : ∀ r, (∀ i, i < 32 → (bt r i = true ↔ bt r0 i = true ∨ (i < n ∧ tr_s b_parent b_name v a i = true))) → J32 r (nI (a + 1))) :
    ∀ d m f r, m + d = n → d < f → (∀ i, i < 32 → (bt r i = true ↔ bt r0 i = true ∨ (i < m ∧ tr_s b_parent b_name v a i = true))) → wY_plainPath_57 post J8 J32 x2 x4 (nI at') (nI a) (nI n) g_inner g_rules g_place g_listed g_depth g_row g_pc g_node g_position g_size g_fault g_put g_steps b_name b_parent b_value b_kind b_with b_count b_bodyAt b_priority b_given b_there b_wanted b_waiting b_within b_list b_left b_reached b_sizes b_each b_backRow b_backPc b_backNode b_backPosition b_backSize b_output f r (nI m) := by
  have hn := T.1
  intro d
  induction d with
  | zero =>
    intro m f r hm hf hr
    obtain ⟨f, rfl⟩ : ∃ x, f = x + 1 := ⟨f - 1, by omega⟩
    have e : m = n := by omega
    subst e
    exact br_t (nI_le (Nat.le_refl _) (by omega)) (nm_r (nI_1 a) (hJ r hr))
  | succ d ih =>
    intro m f r hm hf hr
    obtain ⟨f, rfl⟩ : ∃ x, f = x + 1 := ⟨f - 1, by omega⟩
    refine br_f (nI_ge (by omega) (by omega)) (yw_onStep T hat hw hv ha (by omega) (ys_b0 (fun z => nm_r (nI_1 m) (ih (m + 1) f r (by omega) (by omega) fun i hi => ?_)) (fun z => nm_e (nm_r (nI_1 m) (ih (m + 1) f _ (by omega) (by omega) fun i hi => ?_)))))
    · rw [hr i hi]
      refine ⟨fun y => y.elim Or.inl (fun y => Or.inr ⟨by omega, y.2⟩), fun y => y.elim Or.inl (fun y => Or.inr ⟨?_, y.2⟩)⟩
      rcases Nat.lt_or_ge i m with q | q
      · exact q
      · have : i = m := by omega
        rw [this, z] at y
        exact nomatch y.2
    · rw [ms_set r (by omega) hi, Bool.or_eq_true, decide_eq_true_eq, hr i hi]
      constructor
      · rintro ((y | y) | y)
        · exact Or.inl y
        · exact Or.inr ⟨by omega, y.2⟩
        · rw [y]; exact Or.inr ⟨by omega, z⟩
      · rintro (y | ⟨y1, y2⟩)
        · exact Or.inl (Or.inl y)
        · rcases Nat.lt_or_ge i m with q | q
          · exact Or.inl (Or.inr ⟨q, y2⟩)
          · exact Or.inr (by omega)
theorem yw_pp32 {post : Int32 → Prop} {J8 : Int32 → Int32 → Prop} {x2 S : Int32} {n at' v : Nat} (T : tr_T b_parent n) (hat : at' < 210) (hw : b_with at' = nI v) (hv : v < 72)
    (hJ : ∀ r, (∀ i, i < 32 → (bt r i = true ↔ ∃ a, a < n ∧ bt S a = true ∧ i < n ∧ tr_s b_parent b_name v a i = true)) → J8 r (nI (at' + 1))) :
    ∀ d a f r, a + d = n → d < f → (∀ i, i < 32 → (bt r i = true ↔ ∃ b, b < a ∧ bt S b = true ∧ i < n ∧ tr_s b_parent b_name v b i = true)) → wY_plainPath_32 post J8 x2 S (nI at') (nI n) g_inner g_rules g_place g_listed g_depth g_row g_pc g_node g_position g_size g_fault g_put g_steps b_name b_parent b_value b_kind b_with b_count b_bodyAt b_priority b_given b_there b_wanted b_waiting b_within b_list b_left b_reached b_sizes b_each b_backRow b_backPc b_backNode b_backPosition b_backSize b_output f r (nI a) := by
  have hn := T.1
  intro d
  induction d with
  | zero =>
    intro a f r ha hf hr
    obtain ⟨f, rfl⟩ : ∃ x, f = x + 1 := ⟨f - 1, by omega⟩
    have e : a = n := by omega
    subst e
    exact br_t (nI_le (Nat.le_refl _) (by omega)) (nm_r (nI_1 at') (hJ r hr))
  | succ d ih =>
    intro a f r ha hf hr
    obtain ⟨f, rfl⟩ : ∃ x, f = x + 1 := ⟨f - 1, by omega⟩
    refine br_f (nI_ge (by omega) (by omega)) ?_
    cases hb : bt S a
    · refine br_t (ms_f (by omega) hb) (nm_r (nI_1 a) (ih (a + 1) f r (by omega) (by omega) fun i hi => (hr i hi).trans ⟨fun ⟨b, b1, b2⟩ => ⟨b, by omega, b2⟩, fun ⟨b, b1, b2, b3⟩ => ⟨b, ?_, b2, b3⟩⟩))
      rcases Nat.lt_or_ge b a with q | q
      · exact q
      · have : b = a := by omega
        rw [this, hb] at b2
        exact nomatch b2
    · refine br_f (ms_t (by omega) hb) ⟨n + 1, yw_pp57 T hat hw hv (by omega) (r0 := r) (fun r' hr' => ih (a + 1) f r' (by omega) (by omega) fun i hi => ?_) n 0 (n + 1) r (by omega) (by omega) fun i hi => ⟨Or.inl, fun y => y.elim id (fun y => absurd y.1 (by omega))⟩⟩
      rw [hr' i hi, hr i hi]
      constructor
      · rintro (⟨b, b1, b2⟩ | ⟨y1, y2⟩)
        · exact ⟨b, by omega, b2⟩
        · exact ⟨a, by omega, hb, y1, y2⟩
      · rintro ⟨b, b1, b2, b3, b4⟩
        rcases Nat.lt_or_ge b a with q | q
        · exact Or.inl ⟨b, q, b2, b3, b4⟩
        · have : b = a := by omega
          rw [this] at b4
          exact Or.inr ⟨b3, b4⟩
theorem yw_plainPath_l {post : Int32 → Prop} {K : Nat → Nat} {O : Nat → Int32} {len y en n c0 : Nat} {tb : Nat → Nat → Int32} {ans : Int32} (W : gm_W K len) (hy : y + 30 ≤ 210) (hk : ys_k b_kind b_with y K O len) (T : tr_T b_parent n) (hen : en ≤ len) (hno : ∀ x, x ≤ en → c0 ≤ x → K x ≠ 16) (hov : ∀ x, x < len → K x = 15 → ∃ v, v < 72 ∧ O x = nI v)
    (TE : ∀ c, c < len → nu_TE K O b_value b_parent b_name len n tb c) (hp : post ans) :
    ∀ d j f S, en - j ≤ d → d < f → c0 ≤ j → j ≤ en → (K j = 15 → gm_e K j ≤ en ∧ pa_I n tb S j ans) → (K j ≠ 15 → S = ans) → wY_plainPath_8 post (nI (y + en)) (nI n) g_inner g_rules g_place g_listed g_depth g_row g_pc g_node g_position g_size g_fault g_put g_steps b_name b_parent b_value b_kind b_with b_count b_bodyAt b_priority b_given b_there b_wanted b_waiting b_within b_list b_left b_reached b_sizes b_each b_backRow b_backPc b_backNode b_backPosition b_backSize b_output f S (nI (y + j)) := by
  have hl := W.1
  have hn := T.1
  intro d
  induction d with
  | zero =>
    intro j f S hj hf h0 h1 i1 i2
    obtain ⟨f, rfl⟩ : ∃ x, f = x + 1 := ⟨f - 1, by omega⟩
    have e : j = en := by omega
    subst e
    have n15 : K j ≠ 15 := fun z => by
      have a := (i1 z).1
      rcases Nat.lt_or_ge j len with q | q
      · have := (W.2.2 j q).1; omega
      · have := W.2.1 j q; omega
    rw [i2 n15]
    exact br_t (nI_le (Nat.le_refl _) (by omega)) hp
  | succ d ih =>
    intro j f S hj hf h0 h1 i1 i2
    obtain ⟨f, rfl⟩ : ∃ x, f = x + 1 := ⟨f - 1, by omega⟩
    by_cases k15 : K j = 15
    · obtain ⟨g1, g2⟩ := i1 k15
      have jl : j < len := by
        rcases Nat.lt_or_ge j len with q | q
        · exact q
        · have := W.2.1 j q; omega
      have glt := (W.2.2 j jl).1
      obtain ⟨v, hv, ho⟩ := hov j jl k15
      refine br_f (nI_ge (by omega) (by omega)) ⟨vp_in_nI (by omega) (by omega), ?_⟩
      rw [nI_clamp (by omega), (hk j jl).1, k15]
      refine br_t (by decide) ⟨n + 1, yw_pp32 T (by omega) (by rw [(hk j jl).2]; exact ho) hv (fun r hr => ?_) n 0 (n + 1) 0 (by omega) (by omega) fun i hi => ⟨fun z => absurd z (by rw [b_0]; decide), fun ⟨b, b1, _⟩ => absurd b1 (by omega)⟩⟩
      obtain ⟨q, C, q1, q2, q3, q4, q5, q6, q7⟩ := (W.2.2 j jl).2.2.2.2.2.2.2.1 k15
      have h16 : K (j + 1) ≠ 16 := hno (j + 1) (by omega) (by omega)
      have eq : q = j + 1 := nu_cd_u C (show gm_cd K len 0 (j + 1) (j + 1) from ⟨rfl, h16⟩)
      subst eq
      have st := pa_step (S' := r) hn (TE j jl) k15 C g2 (fun i hi => by
        rw [hr i hi]
        constructor
        · rintro ⟨a, a1, a2, a3, a4⟩; exact ⟨a, a1, a2, (pa_L0 h16 ho hv).mpr ⟨a3, a4⟩⟩
        · rintro ⟨a, a1, a2, a3⟩
          have := (pa_L0 h16 ho hv).mp a3
          exact ⟨a, a1, a2, this.1, this.2⟩)
      rw [show y + j + 1 = y + (j + 1) by omega]
      exact ih (j + 1) f r (by omega) (by omega) (by omega) (by omega) (fun z => ⟨by rw [← (q4 z).1]; exact g1, st.1 z⟩) st.2
    · rw [i2 k15]
      refine br_c (fun _ => hp) (fun z => ?_)
      have jl : j < len := by
        rcases Nat.lt_or_ge j len with q | q
        · exact q
        · exact absurd (nI_le (show y + en ≤ y + j by omega) (by omega)) z
      refine ⟨vp_in_nI (by omega) (by omega), ?_⟩
      rw [nI_clamp (by omega), (hk j jl).1]
      exact br_f (fun q => k15 ((yw_knk W (k := 15) (by omega)).mp q)) hp
theorem yw_plainPath {post : Int32 → Prop} {K : Nat → Nat} {O : Nat → Int32} {len y en n i a : Nat} {tb : Nat → Nat → Int32} (W : gm_W K len) (hy : y + 30 ≤ 210) (hk : ys_k b_kind b_with y K O len) (T : tr_T b_parent n) (hen : en ≤ len) (hno : ∀ x, x ≤ en → i ≤ x → K x ≠ 16) (hov : ∀ x, x < len → K x = 15 → ∃ v, v < 72 ∧ O x = nI v)
    (TE : ∀ c, c < len → nu_TE K O b_value b_parent b_name len n tb c) (k15 : K i = 15) (hie : i ≤ en) (he : gm_e K i ≤ en) (ha : a < n) (hp : post (tb i a)) : wpY_plainPath post (nI n, g_inner, g_rules, g_place, g_listed, g_depth, g_row, g_pc, g_node, g_position, g_size, g_fault, g_put, g_steps, b_name, b_parent, b_value, b_kind, b_with, b_count, b_bodyAt, b_priority, b_given, b_there, b_wanted, b_waiting, b_within, b_list, b_left, b_reached, b_sizes, b_each, b_backRow, b_backPc, b_backNode, b_backPosition, b_backSize, b_output) (nI (y + i)) (nI (y + en)) (nI a) :=
  nm_e ⟨en - i + 1, yw_plainPath_l (c0 := i) W hy hk T hen hno hov TE hp (en - i) i _ _ (Nat.le_refl _) (by omega) (Nat.le_refl _) hie (fun _ => ⟨he, pa_0 T.1 ha⟩) (fun z => absurd k15 z)⟩
