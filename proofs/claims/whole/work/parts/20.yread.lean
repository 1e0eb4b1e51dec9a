/-! the reference: ancestors, axes, sets told, ends of paths -/
variable {g_nodes g_inner g_rules g_place g_listed g_depth g_row g_pc g_node g_position g_size g_fault g_put g_steps : Int32} {b_name b_parent b_value b_kind b_with b_count b_bodyAt b_priority b_given b_there b_wanted b_waiting b_within b_list b_left b_reached b_sizes b_each b_backRow b_backPc b_backNode b_backPosition b_backSize b_output : Nat → Int32}
def ys_b (x : Bool) : Int32 := if x = true then 1 else 0
theorem ys_b0 {x : Bool} {A B : Prop} (f : x = false → A) (g : x = true → B) : (ys_b x = 0 → A) ∧ (¬ ys_b x = 0 → B) := by
  cases x
  · exact br_t rfl (f rfl)
  · exact br_f (by decide) (g rfl)
theorem ys_bn (x : Bool) : narrow .boolean (.int (ys_b x)) = .int (ys_b x) := by cases x <;> rfl
theorem yw_above_l {post : Int32 → Prop} {n a : Nat} (T : tr_T b_parent n) (ha : a < 2 ^ 31) : ∀ m f, m < n → m < f → post (ys_b (tr_a b_parent a m)) → wY_above_7 post (nI a) g_nodes g_inner g_rules g_place g_listed g_depth g_row g_pc g_node g_position g_size g_fault g_put g_steps b_name b_parent b_value b_kind b_with b_count b_bodyAt b_priority b_given b_there b_wanted b_waiting b_within b_list b_left b_reached b_sizes b_each b_backRow b_backPc b_backNode b_backPosition b_backSize b_output f (b_parent m) := by
  intro m
  induction m using Nat.strongRecOn with
  | _ m ih =>
    intro f hm hf hp
    obtain ⟨f, rfl⟩ : ∃ x, f = x + 1 := ⟨f - 1, by omega⟩
    have hn := T.1
    by_cases h : b_parent m < 0
    · rw [tr_a0 h] at hp
      refine br_t h (br_f (fun z => ?_) hp)
      rw [z] at h
      exact nI_pos ha h
    · obtain ⟨p, hp', e⟩ := tr_par T hm h
      rw [tr_as T hm hp' e] at hp
      refine br_f h ?_
      rw [e]
      by_cases z : p = a
      · rw [decide_eq_true z, Bool.true_or] at hp
        subst z
        exact br_t rfl (br_t rfl (br_f (nI_pos ha) hp))
      · rw [decide_eq_false z, Bool.false_or] at hp
        exact br_f (fun q => z ((nI_eq (by omega) ha).mp q)) ⟨vp_in_nI (by omega) (by omega), nm_r (e' := b_parent p) (by rw [nI_clamp (by omega)]) (ih p hp' f (by omega) (by omega) hp)⟩
theorem yw_above {post : Int32 → Prop} {n a m : Nat} (T : tr_T b_parent n) (ha : a < 2 ^ 31) (hm : m < n) (hp : post (ys_b (tr_a b_parent a m))) : wpY_above post (g_nodes, g_inner, g_rules, g_place, g_listed, g_depth, g_row, g_pc, g_node, g_position, g_size, g_fault, g_put, g_steps, b_name, b_parent, b_value, b_kind, b_with, b_count, b_bodyAt, b_priority, b_given, b_there, b_wanted, b_waiting, b_within, b_list, b_left, b_reached, b_sizes, b_each, b_backRow, b_backPc, b_backNode, b_backPosition, b_backSize, b_output) (nI a) (nI m) :=
  ⟨vp_in_nI (by have := T.1; omega) (by omega), nm_r (e' := b_parent m) (by rw [nI_clamp (by have := T.1; omega)]) ⟨m + 1, yw_above_l T ha m (m + 1) hm (by omega) hp⟩⟩
theorem yw_on {post : Int32 → Prop} {n ax a m : Nat} (T : tr_T b_parent n) (hx : ax < 9) (ha : a < n) (hm : m < n) (hp : post (ys_b (tr_on b_parent ax a m))) : wpY_on post (g_nodes, g_inner, g_rules, g_place, g_listed, g_depth, g_row, g_pc, g_node, g_position, g_size, g_fault, g_put, g_steps, b_name, b_parent, b_value, b_kind, b_with, b_count, b_bodyAt, b_priority, b_given, b_there, b_wanted, b_waiting, b_within, b_list, b_left, b_reached, b_sizes, b_each, b_backRow, b_backPc, b_backNode, b_backPosition, b_backSize, b_output) (nI ax) (nI a) (nI m) := by
  have hn := T.1
  have ia : vp_in (nI a) 24 := vp_in_nI (by omega) (by omega)
  have im : vp_in (nI m) 24 := vp_in_nI (by omega) (by omega)
  have ca : (nI a).toNatClampNeg = a := nI_clamp (by omega)
  have cm : (nI m).toNatClampNeg = m := nI_clamp (by omega)
  have dc : ∀ (c : Prop) [Decidable c], post (ys_b (decide c)) → (c → post 1) ∧ (¬ c → post 0) := fun c _ h => by
    by_cases z : c
    · rw [decide_eq_true z] at h; exact br_t z h
    · rw [decide_eq_false z] at h; exact br_f z h
  have nt : ∀ x : Bool, post (ys_b (!x)) → (ys_b x = 0 → post 1) ∧ (¬ ys_b x = 0 → post 0) := fun x h => ys_b0 (fun z => by rw [z] at h; exact h) (fun z => by rw [z] at h; exact h)
  rcases (show ax = 0 ∨ ax = 1 ∨ ax = 2 ∨ ax = 3 ∨ ax = 4 ∨ ax = 5 ∨ ax = 6 ∨ ax = 7 ∨ ax = 8 by omega) with rfl | rfl | rfl | rfl | rfl | rfl | rfl | rfl | rfl
  · rw [tr_on0] at hp
    refine br_f (by decide) (br_f (by decide) (br_t (by decide) (?_)))
    refine pk_eq m a (fun z => ?_) (fun z => ?_)
    · rw [decide_eq_true z] at hp; exact hp
    · rw [decide_eq_false z] at hp; exact hp
  · rw [tr_on1] at hp
    refine br_f (by decide) (br_f (by decide) (br_f (by decide) (br_t (by decide) (⟨im, ?_⟩))))
    rw [cm]
    exact dc _ hp
  · rw [tr_on2] at hp
    refine br_f (by decide) (br_f (by decide) (br_f (by decide) (br_f (by decide) (br_t (by decide) (⟨ia, ?_⟩)))))
    rw [ca]
    exact dc _ hp
  · rw [tr_on3] at hp
    exact br_f (by decide) (br_f (by decide) (br_f (by decide) (br_f (by decide) (br_f (by decide) (br_t (by decide) (yw_above T (by omega) hm ⟨ys_bn _, hp⟩))))))
  · rw [tr_on4] at hp
    exact br_f (by decide) (br_f (by decide) (br_f (by decide) (br_f (by decide) (br_f (by decide) (br_f (by decide) (br_t (by decide) (yw_above T (by omega) ha ⟨ys_bn _, hp⟩)))))))
  · rw [tr_on5] at hp
    refine br_f (by decide) (br_f (by decide) (br_f (by decide) (br_f (by decide) (br_f (by decide) (br_f (by decide) (br_f (by decide) (br_t (by decide) (⟨im, ia, ?_⟩))))))))
    rw [cm, ca]
    by_cases z : b_parent m = b_parent a
    · rw [decide_eq_true z, Bool.true_and] at hp
      refine br_t z (pk_le m a (fun q => ?_) (fun q => ?_))
      · rw [decide_eq_false (by omega)] at hp; exact hp
      · rw [decide_eq_true q] at hp; exact hp
    · rw [decide_eq_false z, Bool.false_and] at hp
      exact br_f z hp
  · rw [tr_on6] at hp
    refine br_f (by decide) (br_f (by decide) (br_f (by decide) (br_f (by decide) (br_f (by decide) (br_f (by decide) (br_f (by decide) (br_f (by decide) (br_t (by decide) (⟨im, ia, ?_⟩)))))))))
    rw [cm, ca]
    by_cases z : b_parent m = b_parent a
    · rw [decide_eq_true z, Bool.true_and] at hp
      refine br_t z (pk_le a m (fun q => ?_) (fun q => ?_))
      · rw [decide_eq_false (by omega)] at hp; exact hp
      · rw [decide_eq_true q] at hp; exact hp
    · rw [decide_eq_false z, Bool.false_and] at hp
      exact br_f z hp
  · rw [tr_on7] at hp
    refine br_f (by decide) (br_f (by decide) (br_f (by decide) (br_f (by decide) (br_f (by decide) (br_f (by decide) (br_f (by decide) (br_f (by decide) (br_f (by decide) (br_t (by decide) (?_))))))))))
    refine pk_le m a (fun q => ?_) (fun q => yw_above T (by omega) hm ?_)
    · rw [decide_eq_false (by omega), Bool.false_and] at hp; exact hp
    · rw [decide_eq_true q, Bool.true_and] at hp
      exact nt _ hp
  · rw [tr_on8] at hp
    refine br_f (by decide) (br_t (by decide) ?_)
    refine pk_le a m (fun q => ?_) (fun q => yw_above T (by omega) ha ?_)
    · rw [decide_eq_false (by omega), Bool.false_and] at hp; exact hp
    · rw [decide_eq_true q, Bool.true_and] at hp
      exact nt _ hp
theorem yw_onStep {post : Int32 → Prop} {n at' v a m : Nat} (T : tr_T b_parent n) (hat : at' < 210) (hw : b_with at' = nI v) (hv : v < 72) (ha : a < n) (hm : m < n) (hp : post (ys_b (tr_s b_parent b_name v a m))) : wpY_onStep post (g_nodes, g_inner, g_rules, g_place, g_listed, g_depth, g_row, g_pc, g_node, g_position, g_size, g_fault, g_put, g_steps, b_name, b_parent, b_value, b_kind, b_with, b_count, b_bodyAt, b_priority, b_given, b_there, b_wanted, b_waiting, b_within, b_list, b_left, b_reached, b_sizes, b_each, b_backRow, b_backPc, b_backNode, b_backPosition, b_backSize, b_output) (nI at') (nI a) (nI m) := by
  have hn := T.1
  have e7 : nI v &&& 7 = nI (v % 8) := pk_andN (by omega) 3 (by decide)
  have e3 : nI v >>> ((3 : Int32) &&& 31) = nI (v / 8) := pk_shrN (by omega) _ 3 (by decide)
  have w29 : (v % 8 = 6 ∨ b_name m = nI (v % 8)) → wY_onStep_29 post (nI at') (nI a) (nI m) g_nodes g_inner g_rules g_place g_listed g_depth g_row g_pc g_node g_position g_size g_fault g_put g_steps b_name b_parent b_value b_kind b_with b_count b_bodyAt b_priority b_given b_there b_wanted b_waiting b_within b_list b_left b_reached b_sizes b_each b_backRow b_backPc b_backNode b_backPosition b_backSize b_output := fun h => by
    refine ⟨vp_in_nI hat (by omega), ?_⟩
    rw [nI_clamp (by omega), hw, e3]
    refine yw_on T (by omega) ha hm ?_
    have e : (decide (v % 8 = 6) || decide (b_name m = nI (v % 8))) = true := by
      rw [Bool.or_eq_true, decide_eq_true_eq, decide_eq_true_eq]; exact h
    rw [tr_s, e, Bool.true_and] at hp
    exact ys_b0 (fun z => by rw [z] at hp; exact hp) (fun z => by rw [z] at hp; exact hp)
  refine ⟨vp_in_nI hat (by omega), nm_r (e' := nI (v % 8)) (by rw [nI_clamp (by omega), hw, e7]) ?_⟩
  refine pk_eq (v % 8) 6 (fun z => w29 (Or.inl z)) (fun z => ⟨vp_in_nI (by omega) (by omega), ?_⟩)
  rw [nI_clamp (by omega)]
  by_cases y : b_name m = nI (v % 8)
  · exact br_t y (w29 (Or.inr y))
  · rw [tr_s, decide_eq_false z, decide_eq_false y] at hp
    exact br_f y hp
theorem yw_told_l {post : Int32 → Prop} {x : Int32} {t n : Nat} (hn : n ≤ 24) (ht : t < 100) : ∀ k f acc, k ≤ n → k < f → post (me_t b_value t x k acc) → wY_told_10 post (nI t) x g_nodes g_inner g_rules g_place g_listed g_depth g_row g_pc g_node g_position g_size g_fault g_put g_steps b_name b_parent b_value b_kind b_with b_count b_bodyAt b_priority b_given b_there b_wanted b_waiting b_within b_list b_left b_reached b_sizes b_each b_backRow b_backPc b_backNode b_backPosition b_backSize b_output f acc (nI k - 1) := by
  intro k
  induction k with
  | zero =>
    intro f acc _ hf hp
    obtain ⟨f, rfl⟩ : ∃ x, f = x + 1 := ⟨f - 1, by omega⟩
    exact br_t (by decide) hp
  | succ k ih =>
    intro f acc hk hf hp
    obtain ⟨f, rfl⟩ : ∃ x, f = x + 1 := ⟨f - 1, by omega⟩
    rw [nI_pred]
    rw [me_t] at hp
    refine br_f (nI_pos (by omega)) ?_
    cases hb : bt x k
    · rw [hb, if_neg (by decide)] at hp
      exact br_t (ms_f (by omega) hb) (nm_r (xw_m1 k) (ih f acc (by omega) (by omega) hp))
    · rw [hb, if_pos rfl] at hp
      refine br_f (ms_t (by omega) hb) (pk_eq t 4 (fun z => ?_) (fun z => pk_eq t 5 (fun y => ⟨vp_in_nI (by omega) (by omega), ?_⟩) (fun y => ⟨vp_in_nI (by omega) (by omega), ?_⟩)))
      · rw [if_pos z] at hp
        exact nm_e (nm_r (xw_m1 k) (ih f _ (by omega) (by omega) hp))
      · rw [if_neg z, if_pos y] at hp
        exact nm_r (e' := acc + b_value k) (by rw [nI_clamp (by omega)]) (nm_r (xw_m1 k) (ih f _ (by omega) (by omega) hp))
      · rw [if_neg z, if_neg y] at hp
        exact nm_r (e' := b_value k) (by rw [nI_clamp (by omega)]) (nm_r (xw_m1 k) (ih f _ (by omega) (by omega) hp))
theorem yw_told {post : Int32 → Prop} {x : Int32} {t n : Nat} (hn : n ≤ 24) (ht : t < 100) (hp : post (nu_m b_value n t x)) : wpY_told post (nI n, g_inner, g_rules, g_place, g_listed, g_depth, g_row, g_pc, g_node, g_position, g_size, g_fault, g_put, g_steps, b_name, b_parent, b_value, b_kind, b_with, b_count, b_bodyAt, b_priority, b_given, b_there, b_wanted, b_waiting, b_within, b_list, b_left, b_reached, b_sizes, b_each, b_backRow, b_backPc, b_backNode, b_backPosition, b_backSize, b_output) (nI t) x :=
  nm_e ⟨n + 1, yw_told_l hn ht n (n + 1) 0 (Nat.le_refl _) (by omega) (by rw [me_m]; exact hp)⟩
/-- the tokens of a slot that begins at y -/
def ys_k (b_kind b_with : Nat → Int32) (y : Nat) (K : Nat → Nat) (O : Nat → Int32) (len : Nat) : Prop := ∀ x, x < len → b_kind (y + x) = nI (K x) ∧ b_with (y + x) = O x
theorem yw_knk {K : Nat → Nat} {len c k : Nat} (W : gm_W K len) (hk : k < 2 ^ 31) : nI (K c) = nI k ↔ K c = k := nI_eq (by have := gm_k26 W c; omega) hk
theorem yw_pe40 {post : Int32 → Prop} {J : Int32 → Prop} {x2 : Int32} {K : Nat → Nat} {O : Nat → Int32} {len y e : Nat} (W : gm_W K len) (hy : y + 30 ≤ 210) (hk : ys_k b_kind b_with y K O len) (he : e < len) (k17 : K e = 17) (hJ : J (nI (y + (e + 1)))) :
    ∀ d j f, j + d = e → d < f → (∀ x, j ≤ x → x < e → K x ≠ 17) → wY_pathEnd_40 post J x2 g_nodes g_inner g_rules g_place g_listed g_depth g_row g_pc g_node g_position g_size g_fault g_put g_steps b_name b_parent b_value b_kind b_with b_count b_bodyAt b_priority b_given b_there b_wanted b_waiting b_within b_list b_left b_reached b_sizes b_each b_backRow b_backPc b_backNode b_backPosition b_backSize b_output f (nI (y + j)) := by
  have hl := W.1
  intro d
  induction d with
  | zero =>
    intro j f hj hf _
    obtain ⟨f, rfl⟩ : ∃ x, f = x + 1 := ⟨f - 1, by omega⟩
    have e' : j = e := by omega
    subst e'
    refine ⟨vp_in_nI (by omega) (by omega), ?_⟩
    rw [nI_clamp (by omega), (hk j he).1, k17]
    exact br_t (by decide) (nm_r (e' := nI (y + (j + 1))) (by rw [nI_1, Nat.add_assoc]) hJ)
  | succ d ih =>
    intro j f hj hf hx
    obtain ⟨f, rfl⟩ : ∃ x, f = x + 1 := ⟨f - 1, by omega⟩
    refine ⟨vp_in_nI (by omega) (by omega), ?_⟩
    rw [nI_clamp (by omega), (hk j (by omega)).1]
    exact br_f (fun z => hx j (Nat.le_refl _) (by omega) ((yw_knk W (k := 17) (by omega)).mp z)) (nm_r (e' := nI (y + (j + 1))) (by rw [nI_1, Nat.add_assoc]) (ih (j + 1) f (by omega) (by omega) fun x x1 x2 => hx x (by omega) x2))
theorem yw_ps20 {post : Int32 → Prop} {J : Int32 → Prop} {x2 : Int32} {K : Nat → Nat} {O : Nat → Int32} {len y e : Nat} (W : gm_W K len) (hy : y + 30 ≤ 210) (hk : ys_k b_kind b_with y K O len) (he : e < len) (k17 : K e = 17) (hJ : J (nI (y + (e + 1)))) :
    ∀ d j f, j + d = e → d < f → (∀ x, j ≤ x → x < e → K x ≠ 17) → wY_pathStep_20 post J x2 g_nodes g_inner g_rules g_place g_listed g_depth g_row g_pc g_node g_position g_size g_fault g_put g_steps b_name b_parent b_value b_kind b_with b_count b_bodyAt b_priority b_given b_there b_wanted b_waiting b_within b_list b_left b_reached b_sizes b_each b_backRow b_backPc b_backNode b_backPosition b_backSize b_output f (nI (y + j)) := by
  have hl := W.1
  intro d
  induction d with
  | zero =>
    intro j f hj hf _
    obtain ⟨f, rfl⟩ : ∃ x, f = x + 1 := ⟨f - 1, by omega⟩
    have e' : j = e := by omega
    subst e'
    refine ⟨vp_in_nI (by omega) (by omega), ?_⟩
    rw [nI_clamp (by omega), (hk j he).1, k17]
    exact br_t (by decide) (nm_r (e' := nI (y + (j + 1))) (by rw [nI_1, Nat.add_assoc]) hJ)
  | succ d ih =>
    intro j f hj hf hx
    obtain ⟨f, rfl⟩ : ∃ x, f = x + 1 := ⟨f - 1, by omega⟩
    refine ⟨vp_in_nI (by omega) (by omega), ?_⟩
    rw [nI_clamp (by omega), (hk j (by omega)).1]
    exact br_f (fun z => hx j (Nat.le_refl _) (by omega) ((yw_knk W (k := 17) (by omega)).mp z)) (nm_r (e' := nI (y + (j + 1))) (by rw [nI_1, Nat.add_assoc]) (ih (j + 1) f (by omega) (by omega) fun x x1 x2 => hx x (by omega) x2))
theorem gm_no17 {K : Nat → Nat} {len j : Nat} (W : gm_W K len) (hj : j < len) (k : K j = 16) : gm_e K j - 1 < len ∧ K (gm_e K j - 1) = 17 ∧ j < gm_e K j - 1 ∧ ∀ x, j ≤ x → x < gm_e K j - 1 → K x ≠ 17 := by
  obtain ⟨o1, o2, o3, o4, o5⟩ := (W.2.2 j hj).2.2.2.2.2.2.2.2.1 k
  have b := (W.2.2 j hj).2.1
  rw [o4, Nat.add_sub_cancel]
  refine ⟨by omega, o3, by omega, fun x x1 x2 => ?_⟩
  rcases Nat.eq_or_lt_of_le x1 with e | e
  · rw [← e, k]; omega
  · have := o5 x e x2; omega
theorem ch_pr_ge {K : Nat → Nat} {len i h : Nat} (W : gm_W K len) (p : ch_pr K len i h) : i ≤ h := by
  obtain ⟨q, C, a, b⟩ := p
  have g := (nu_cd_ge C).1
  by_cases k : K q = 15
  · have := gm_en_ge K 64 0 q
    rw [a k]
    exact Nat.le_trans g this
  · rw [b k]; exact g
theorem ch_pr_s15 {K : Nat → Nat} {len j h : Nat} (W : gm_W K len) (hj : j < len) (k : K j = 15) (p : ch_pr K len j h) : ch_pr K len (j + 1) h := by
  have e := ch_pr_15 k p
  obtain ⟨q, C, h1, h2, h3, h4, h5, h6, h7⟩ := (W.2.2 j hj).2.2.2.2.2.2.2.1 k
  exact ⟨q, C, fun z => by rw [e]; exact (h4 z).1, fun z => by rw [e]; exact h5 z⟩
theorem ch_pr_s16 {K : Nat → Nat} {len j h : Nat} (k : K j = 16) (p : ch_pr K len j h) : ch_pr K len (gm_e K j) h := by
  obtain ⟨q, C, a, b⟩ := p
  have g := (nu_cd_ge C).1
  rcases Nat.eq_or_lt_of_le g with e | e
  · subst e
    exact absurd k (nu_cd_ge C).2
  · obtain ⟨f, hf⟩ : ∃ f, q - j = f + 1 := ⟨q - j - 1, by omega⟩
    rw [hf] at C
    rcases C with C | ⟨c1, c2, c3, c4, C⟩
    · omega
    · refine ⟨q, ?_, a, b⟩
      have g2 := (nu_cd_ge C).1
      exact nu_cdn C
theorem yw_pathEnd_l {post : Int32 → Prop} {K : Nat → Nat} {O : Nat → Int32} {len y en h : Nat} (W : gm_W K len) (hy : y + 30 ≤ 210) (hk : ys_k b_kind b_with y K O len) (hen : en ≤ len) (hh : h ≤ en) (hp : post (nI (y + h))) :
    ∀ d j f, h - j ≤ d → d < f → ch_pr K len j h → wY_pathEnd_2 post (nI (y + en)) g_nodes g_inner g_rules g_place g_listed g_depth g_row g_pc g_node g_position g_size g_fault g_put g_steps b_name b_parent b_value b_kind b_with b_count b_bodyAt b_priority b_given b_there b_wanted b_waiting b_within b_list b_left b_reached b_sizes b_each b_backRow b_backPc b_backNode b_backPosition b_backSize b_output f (nI (y + j)) := by
  have hl := W.1
  intro d
  induction d with
  | zero =>
    intro j f hj hf p
    have g := ch_pr_ge W p
    obtain ⟨f, rfl⟩ : ∃ x, f = x + 1 := ⟨f - 1, by omega⟩
    have e : j = h := by omega
    subst e
    refine br_c (fun _ => hp) (fun z => ?_)
    have jl : j < len := by
      rcases Nat.lt_or_ge j len with q | q
      · exact q
      · exact absurd (nI_le (show y + en ≤ y + j by omega) (by omega)) z
    have n15 : K j ≠ 15 := fun q => by
      have := ch_pr_15 q p
      have := (W.2.2 j jl).1
      omega
    have n16 : K j ≠ 16 := fun q => by
      have := ch_pr_ge W (ch_pr_s16 q p)
      have := (W.2.2 j jl).1
      omega
    refine ⟨vp_in_nI (by omega) (by omega), ?_⟩
    rw [nI_clamp (by omega), (hk j jl).1]
    exact br_f (fun q => n15 ((yw_knk W (k := 15) (by omega)).mp q)) ⟨vp_in_nI (by omega) (by omega), br_f (fun q => n16 ((yw_knk W (k := 16) (by omega)).mp q)) hp⟩
  | succ d ih =>
    intro j f hj hf p
    have g := ch_pr_ge W p
    rcases Nat.eq_or_lt_of_le g with e | lt
    · exact ih j f (by omega) (by omega) p
    obtain ⟨f, rfl⟩ : ∃ x, f = x + 1 := ⟨f - 1, by omega⟩
    have jl : j < len := by omega
    refine br_f (nI_ge (by omega) (by omega)) ⟨vp_in_nI (by omega) (by omega), ?_⟩
    rw [nI_clamp (by omega), (hk j jl).1]
    by_cases k15 : K j = 15
    · rw [k15]
      refine br_t (by decide) ⟨vp_in_nI (by omega) (by omega), ?_⟩
      rw [nI_clamp (by omega), (hk j jl).1, k15]
      exact br_f (by decide) (nm_r (e' := nI (y + (j + 1))) (by rw [nI_1, Nat.add_assoc]) (ih (j + 1) f (by omega) (by omega) (ch_pr_s15 W jl k15 p)))
    · by_cases k16 : K j = 16
      · obtain ⟨m1, m2, m3, m4⟩ := gm_no17 W jl k16
        rw [k16]
        refine br_f (by decide) ⟨vp_in_nI (by omega) (by omega), br_t (by decide) ⟨vp_in_nI (by omega) (by omega), ?_⟩⟩
        rw [nI_clamp (by omega), (hk j jl).1, k16]
        refine br_t (by decide) ⟨gm_e K j - j + 1, yw_pe40 W hy hk m1 m2 ?_ (gm_e K j - 1 - j) j _ (by omega) (by omega) m4⟩
        rw [show gm_e K j - 1 + 1 = gm_e K j by omega]
        exact ih (gm_e K j) f (by omega) (by omega) (ch_pr_s16 k16 p)
      · have := ch_pr_at k15 k16 p
        omega
theorem yw_pathEnd {post : Int32 → Prop} {K : Nat → Nat} {O : Nat → Int32} {len y en i : Nat} (W : gm_W K len) (hy : y + 30 ≤ 210) (hk : ys_k b_kind b_with y K O len) (hen : en ≤ len) (k15 : K i = 15) (hh : gm_e K i ≤ en) (hp : post (nI (y + gm_e K i))) : wpY_pathEnd post (g_nodes, g_inner, g_rules, g_place, g_listed, g_depth, g_row, g_pc, g_node, g_position, g_size, g_fault, g_put, g_steps, b_name, b_parent, b_value, b_kind, b_with, b_count, b_bodyAt, b_priority, b_given, b_there, b_wanted, b_waiting, b_within, b_list, b_left, b_reached, b_sizes, b_each, b_backRow, b_backPc, b_backNode, b_backPosition, b_backSize, b_output) (nI (y + i)) (nI (y + en)) :=
  ⟨gm_e K i - i + 1, yw_pathEnd_l W hy hk hen hh hp (gm_e K i - i) i _ (Nat.le_refl _) (by omega) ⟨i, by rw [Nat.sub_self]; exact ⟨rfl, by omega⟩, fun _ => rfl, fun z => absurd k15 z⟩⟩
theorem yw_pathStep_l {post : Int32 → Prop} {K : Nat → Nat} {O : Nat → Int32} {len y en q : Nat} (W : gm_W K len) (hy : y + 30 ≤ 210) (hk : ys_k b_kind b_with y K O len) (hen : en ≤ len) (hq : q ≤ en) (hs : K q ≠ 15 → q = en) (hp : post (nI (y + q))) :
    ∀ d j f g, q - j ≤ d → d < f → gm_cd K len g j q → wY_pathStep_4 post (nI (y + en)) g_nodes g_inner g_rules g_place g_listed g_depth g_row g_pc g_node g_position g_size g_fault g_put g_steps b_name b_parent b_value b_kind b_with b_count b_bodyAt b_priority b_given b_there b_wanted b_waiting b_within b_list b_left b_reached b_sizes b_each b_backRow b_backPc b_backNode b_backPosition b_backSize b_output f (nI (y + j)) := by
  have hl := W.1
  have stop : ∀ f, wY_pathStep_4 post (nI (y + en)) g_nodes g_inner g_rules g_place g_listed g_depth g_row g_pc g_node g_position g_size g_fault g_put g_steps b_name b_parent b_value b_kind b_with b_count b_bodyAt b_priority b_given b_there b_wanted b_waiting b_within b_list b_left b_reached b_sizes b_each b_backRow b_backPc b_backNode b_backPosition b_backSize b_output (f + 1) (nI (y + q)) := by
    intro f
    refine br_c (fun _ => hp) (fun z => ?_)
    have ql : q < len := by
      rcases Nat.lt_or_ge q len with v | v
      · exact v
      · exact absurd (nI_le (show y + en ≤ y + q by omega) (by omega)) z
    have k15 : K q = 15 := Classical.byContradiction fun v => z (by rw [hs v]; exact nI_le (Nat.le_refl _) (by omega))
    refine ⟨vp_in_nI (by omega) (by omega), ?_⟩
    rw [nI_clamp (by omega), (hk q ql).1, k15]
    exact br_t (by decide) hp
  intro d
  induction d with
  | zero =>
    intro j f g hj hf C
    have ge := (nu_cd_ge C).1
    obtain ⟨f, rfl⟩ : ∃ x, f = x + 1 := ⟨f - 1, by omega⟩
    have e : j = q := by omega
    rw [e]; exact stop f
  | succ d ih =>
    intro j f g hj hf C
    have ge := (nu_cd_ge C).1
    obtain ⟨f, rfl⟩ : ∃ x, f = x + 1 := ⟨f - 1, by omega⟩
    rcases Nat.eq_or_lt_of_le ge with e | lt
    · rw [e]; exact stop f
    · cases g with
      | zero => exact absurd C.1 (by omega)
      | succ g =>
        rcases C with C | ⟨k16, c2, c3, c4, C⟩
        · exact absurd C.1 (by omega)
        · have jl : j < len := by omega
          obtain ⟨m1, m2, m3, m4⟩ := gm_no17 W jl k16
          refine br_f (nI_ge (by omega) (by omega)) ⟨vp_in_nI (by omega) (by omega), ?_⟩
          rw [nI_clamp (by omega), (hk j jl).1, k16]
          refine br_f (by decide) ⟨gm_e K j - j + 1, yw_ps20 W hy hk m1 m2 ?_ (gm_e K j - 1 - j) j _ (by omega) (by omega) m4⟩
          rw [show gm_e K j - 1 + 1 = gm_e K j by omega]
          exact ih (gm_e K j) f g (by omega) (by omega) C
theorem yw_pathStep {post : Int32 → Prop} {K : Nat → Nat} {O : Nat → Int32} {len y i q : Nat} (W : gm_W K len) (hy : y + 30 ≤ 210) (hk : ys_k b_kind b_with y K O len) (hi : i < len) (hq : q ≤ gm_e K i) (C : gm_cd K len (q - (i + 1)) (i + 1) q) (hs : K q ≠ 15 → gm_e K i = q) (hp : post (nI (y + q))) : wpY_pathStep post (g_nodes, g_inner, g_rules, g_place, g_listed, g_depth, g_row, g_pc, g_node, g_position, g_size, g_fault, g_put, g_steps, b_name, b_parent, b_value, b_kind, b_with, b_count, b_bodyAt, b_priority, b_given, b_there, b_wanted, b_waiting, b_within, b_list, b_left, b_reached, b_sizes, b_each, b_backRow, b_backPc, b_backNode, b_backPosition, b_backSize, b_output) (nI (y + i)) (nI (y + gm_e K i)) :=
  nm_r (e' := nI (y + (i + 1))) (by rw [nI_1, Nat.add_assoc]) ⟨q + 1, yw_pathStep_l W hy hk (W.2.2 i hi).2.1 hq (fun z => (hs z).symm) hp q (i + 1) _ _ (by omega) (by omega) C⟩
