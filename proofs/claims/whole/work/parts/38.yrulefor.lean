/-! the reference: the rule for a node; ruleFor -/
/-- a rule of the reference: absent, or an allowed text with the table tb -/
def yr_H (b_kind b_with b_bodyAt b_there b_value b_parent b_name : Nat → Int32) (K : Nat → Nat → Nat) (O : Nat → Nat → Int32) (len : Nat → Nat) (n : Nat) (tb : Nat → Nat → Nat → Int32) (r : Nat) : Prop :=
  b_there r = 0 ∨ (b_there r = 1 ∧ gm_W (K r) (len r) ∧ K r 0 = 15 ∧ 0 < len r ∧ ys_k b_kind b_with (30 * r) (K r) (O r) (len r) ∧ (∀ x, x < len r → K r x = 15 → ∃ v, v < 72 ∧ O r x = nI v) ∧ b_bodyAt r = nI (gm_e (K r) 0) ∧ ∀ c, c < len r → nu_TE (K r) (O r) b_value b_parent b_name (len r) n (tb r) c)
section
variable {g_nodes g_inner g_rules g_place g_listed g_depth g_row g_pc g_node g_position g_size g_fault g_put g_steps : Int32} {b_name b_parent b_value b_kind b_with b_count b_bodyAt b_priority b_given b_there b_wanted b_waiting b_within b_list b_left b_reached b_sizes b_each b_backRow b_backPc b_backNode b_backPosition b_backSize b_output : Nat → Int32}
theorem yo_matches_l {post : Int32 → SY → Prop} {K : Nat → Nat → Nat} {O : Nat → Nat → Int32} {len : Nat → Nat} {n r m : Nat} {tb : Nat → Nat → Nat → Int32} (T : tr_T b_parent n) (hr : r < 6) (hm : m < n) (t1 : b_there r = 1) (W : gm_W (K r) (len r)) (k15 : K r 0 = 15) (h0l : 0 < len r) (hk : ys_k b_kind b_with (30 * r) (K r) (O r) (len r)) (hov : ∀ x, x < len r → K r x = 15 → ∃ v, v < 72 ∧ O r x = nI v) (hb : b_bodyAt r = nI (gm_e (K r) 0)) (TE : ∀ c, c < len r → nu_TE (K r) (O r) b_value b_parent b_name (len r) n (tb r) c) :
    ∀ a f gl bl bw, a < n → a + 1 < f →
      ((∃ b, b < n ∧ (a = b ∨ tr_a b_parent b a = true) ∧ bt (tb r 0 b) m = true) → ∀ (gl : Int32) (bl bw : Nat → Int32), post 1 (nI n, g_inner, g_rules, g_place, gl, g_depth, g_row, g_pc, g_node, g_position, g_size, g_fault, g_put, g_steps, b_name, b_parent, b_value, b_kind, b_with, b_count, b_bodyAt, b_priority, b_given, b_there, b_wanted, b_waiting, bw, bl, b_left, b_reached, b_sizes, b_each, b_backRow, b_backPc, b_backNode, b_backPosition, b_backSize, b_output)) →
      (¬ (∃ b, b < n ∧ (a = b ∨ tr_a b_parent b a = true) ∧ bt (tb r 0 b) m = true) → ∀ (gl : Int32) (bl bw : Nat → Int32), post 0 (nI n, g_inner, g_rules, g_place, gl, g_depth, g_row, g_pc, g_node, g_position, g_size, g_fault, g_put, g_steps, b_name, b_parent, b_value, b_kind, b_with, b_count, b_bodyAt, b_priority, b_given, b_there, b_wanted, b_waiting, bw, bl, b_left, b_reached, b_sizes, b_each, b_backRow, b_backPc, b_backNode, b_backPosition, b_backSize, b_output)) →
      wY_matches_2 post (nI r) (nI m) f (nI a) (nI n) g_inner g_rules g_place gl g_depth g_row g_pc g_node g_position g_size g_fault g_put g_steps b_name b_parent b_value b_kind b_with b_count b_bodyAt b_priority b_given b_there b_wanted b_waiting bw bl b_left b_reached b_sizes b_each b_backRow b_backPc b_backNode b_backPosition b_backSize b_output := by
  have hn := T.1
  have e30 : (30 : Int32) * nI r = nI (30 * r) := by rw [show (30 : Int32) = nI 30 from rfl, pk_mul]
  have cr : (nI r).toNatClampNeg = r := nI_clamp (by omega)
  intro a
  induction a using Nat.strongRecOn with
  | _ a ih =>
    intro f gl bl bw ha hf h1 h0
    obtain ⟨f, rfl⟩ : ∃ x, f = x + 1 := ⟨f - 1, by omega⟩
    refine br_f (nI_pos (by omega)) ⟨vp_in_nI hr (by omega), ?_⟩
    rw [e30, cr, hb, nI_add]
    have hel := (W.2.2 0 h0l).2.1
    refine yw_path (y := 30 * r) (i := 0) (tb := tb r) (g_listed := gl) (b_list := bl) (b_within := bw) W (by omega) hk T hov TE hel k15 (Nat.le_refl _) h0l ha fun gl' bl' bw' => ?_
    cases hbt : bt (tb r 0 a) m
    · refine br_t (ms_f (by omega) hbt) ⟨vp_in_nI (by omega) (by omega), nm_r (e' := b_parent a) (by rw [nI_clamp (by omega)]) ?_⟩
      by_cases hp : b_parent a < 0
      · obtain ⟨f, rfl⟩ : ∃ x, f = x + 1 := ⟨f - 1, by omega⟩
        refine br_t hp (h0 ?_ gl' bl' bw')
        rintro ⟨b, b1, b2, b3⟩
        rcases b2 with b2 | b2
        · rw [← b2, hbt] at b3; exact nomatch b3
        · rw [tr_a0 hp] at b2; exact nomatch b2
      · obtain ⟨p, pa, e⟩ := tr_par T ha hp
        rw [e]
        have eqv : (∃ b, b < n ∧ (p = b ∨ tr_a b_parent b p = true) ∧ bt (tb r 0 b) m = true) ↔ ∃ b, b < n ∧ (a = b ∨ tr_a b_parent b a = true) ∧ bt (tb r 0 b) m = true := by
          constructor
          · rintro ⟨b, b1, b2, b3⟩
            refine ⟨b, b1, Or.inr ?_, b3⟩
            rw [tr_as T ha pa e, Bool.or_eq_true, decide_eq_true_eq]
            exact b2
          · rintro ⟨b, b1, b2, b3⟩
            rcases b2 with b2 | b2
            · rw [← b2, hbt] at b3; exact nomatch b3
            · rw [tr_as T ha pa e, Bool.or_eq_true, decide_eq_true_eq] at b2
              exact ⟨b, b1, b2, b3⟩
        exact ih p pa f gl' bl' bw' (by omega) (by omega) (fun z => h1 (eqv.mp z)) (fun z => h0 (fun y => z (eqv.mpr y)))
    · exact br_f (ms_t (by omega) hbt) (h1 ⟨a, ha, Or.inl rfl, hbt⟩ gl' bl' bw')
theorem yo_rf_l {post : Int32 → SY → Prop} {K : Nat → Nat → Nat} {O : Nat → Nat → Int32} {len : Nat → Nat} {n m : Nat} {tb : Nat → Nat → Nat → Int32} {M : Nat → Bool} {G : Nat → Int32} (T : tr_T b_parent n) (hm : m < n) (H : ∀ r, r < 6 → yr_H b_kind b_with b_bodyAt b_there b_value b_parent b_name K O len n tb r)
    (hM0 : ∀ r, r < 6 → b_there r = 0 → M r = false) (hM1 : ∀ r, r < 6 → b_there r = 1 → (M r = true ↔ ∃ b, b < n ∧ (m = b ∨ tr_a b_parent b m = true) ∧ bt (tb r 0 b) m = true))
    (hG : ∀ r x, r < 6 → x < 6 → b_there r = 1 → b_there x = 1 → (b_given r ≤ b_given x ↔ G r ≤ G x)) :
    ∀ d r f b gl bl bw, r + d = 6 → d < f → (∀ y, b = some y → y < 6 ∧ b_there y = 1) → (∀ (gl : Int32) (bl bw : Nat → Int32), post (bs_i (bs M b_priority G d r b)) (nI n, g_inner, g_rules, g_place, gl, g_depth, g_row, g_pc, g_node, g_position, g_size, g_fault, g_put, g_steps, b_name, b_parent, b_value, b_kind, b_with, b_count, b_bodyAt, b_priority, b_given, b_there, b_wanted, b_waiting, bw, bl, b_left, b_reached, b_sizes, b_each, b_backRow, b_backPc, b_backNode, b_backPosition, b_backSize, b_output)) →
      wY_ruleFor_18 post (nI m) f (bs_i b) (nI r) (nI n) g_inner g_rules g_place gl g_depth g_row g_pc g_node g_position g_size g_fault g_put g_steps b_name b_parent b_value b_kind b_with b_count b_bodyAt b_priority b_given b_there b_wanted b_waiting bw bl b_left b_reached b_sizes b_each b_backRow b_backPc b_backNode b_backPosition b_backSize b_output := by
  have hn := T.1
  intro d
  induction d with
  | zero =>
    intro r f b gl bl bw hr hf hb hp
    obtain ⟨f, rfl⟩ : ∃ x, f = x + 1 := ⟨f - 1, by omega⟩
    have e : r = 6 := by omega
    subst e
    exact br_t (by decide) (hp gl bl bw)
  | succ d ih =>
    intro r f b gl bl bw hr hf hb hp
    obtain ⟨f, rfl⟩ : ∃ x, f = x + 1 := ⟨f - 1, by omega⟩
    have r6 : r < 6 := by omega
    have cr : (nI r).toNatClampNeg = r := nI_clamp (by omega)
    have vr : vp_in (nI r) 6 := vp_in_nI r6 (by omega)
    have keep : ∀ gl bl bw, ¬ (M r = true ∧ bs_f b_priority G r b = true) → ∀ x3, x3 = nI r + 1 → wY_ruleFor_18 post (nI m) f (bs_i b) x3 (nI n) g_inner g_rules g_place gl g_depth g_row g_pc g_node g_position g_size g_fault g_put g_steps b_name b_parent b_value b_kind b_with b_count b_bodyAt b_priority b_given b_there b_wanted b_waiting bw bl b_left b_reached b_sizes b_each b_backRow b_backPc b_backNode b_backPosition b_backSize b_output := fun gl bl bw q => nm_r (nI_1 r) (ih (r + 1) f b gl bl bw (by omega) (by omega) hb (fun gl bl bw => by
      have := hp gl bl bw
      rw [bs, if_neg q] at this
      exact this))
    have w86 : ¬ (M r = true ∧ bs_f b_priority G r b = true) → wY_ruleFor_86 post (wY_ruleFor_18 post (nI m) f) (nI m) (bs_i b) (nI r) (nI n) g_inner g_rules g_place gl g_depth g_row g_pc g_node g_position g_size g_fault g_put g_steps b_name b_parent b_value b_kind b_with b_count b_bodyAt b_priority b_given b_there b_wanted b_waiting bw bl b_left b_reached b_sizes b_each b_backRow b_backPc b_backNode b_backPosition b_backSize b_output := fun q => br_t rfl (keep gl bl bw q)
    refine br_f (nI_ge (b := 6) r6 (by decide)) ⟨vr, ?_⟩
    rw [cr]
    rcases H r r6 with t0 | ⟨t1, W, k15, h0l, hk, hov, hbd, TE⟩
    · exact br_t t0 (w86 (fun z => by rw [hM0 r r6 t0] at z; exact nomatch z.1))
    · have m1 := hM1 r r6 t1
      have w82 : bs_f b_priority G r b = true → wY_ruleFor_82 post (wY_ruleFor_18 post (nI m) f) (nI m) (bs_i b) (nI r) (nI n) g_inner g_rules g_place gl g_depth g_row g_pc g_node g_position g_size g_fault g_put g_steps b_name b_parent b_value b_kind b_with b_count b_bodyAt b_priority b_given b_there b_wanted b_waiting bw bl b_left b_reached b_sizes b_each b_backRow b_backPc b_backNode b_backPosition b_backSize b_output := fun q => by
        refine br_f (by decide) ⟨m + 2, yo_matches_l T r6 hm t1 W k15 h0l hk hov hbd TE m _ gl bl bw hm (by omega) (fun z gl' bl' bw' => br_f (by decide) (nm_r (nI_1 r) (ih (r + 1) f (some r) gl' bl' bw' (by omega) (by omega) (fun y hy => by cases hy; exact ⟨r6, t1⟩) (fun gl bl bw => ?_)))) (fun z gl' bl' bw' => br_t rfl (keep gl' bl' bw' (fun y => z (m1.mp y.1))))⟩
        have := hp gl bl bw
        rw [bs, if_pos ⟨m1.mpr z, q⟩] at this
        exact this
      refine br_f (by rw [t1]; decide) ?_
      cases b with
      | none => exact br_t (by decide) (w82 rfl)
      | some x =>
        obtain ⟨x6, tx⟩ := hb x rfl
        have cx : (bs_i (some x)).toNatClampNeg = x := nI_clamp (n := x) (by omega)
        have vx : vp_in (bs_i (some x)) 6 := vp_in_nI (n := x) x6 (by omega)
        have bf : bs_f b_priority G r (some x) = true ↔ (b_priority x < b_priority r ∨ (b_priority r = b_priority x ∧ ¬ G r ≤ G x)) := decide_eq_true_iff
        refine br_f (nI_pos (n := x) (by omega)) ⟨vr, vx, ?_⟩
        rw [cx]
        refine br_c (fun q => w82 (bf.mpr (Or.inl q))) (fun q => ⟨vr, vx, br_c (fun q2 => ⟨vr, vx, br_c (fun q3 => w86 ?_) (fun q3 => w82 (bf.mpr (Or.inr ⟨q2, fun z => q3 ((hG r x r6 x6 t1 tx).mpr z)⟩)))⟩) (fun q2 => w86 ?_)⟩)
        · rintro ⟨_, z⟩
          rcases bf.mp z with z | z
          · exact q z
          · exact z.2 ((hG r x r6 x6 t1 tx).mp q3)
        · rintro ⟨_, z⟩
          rcases bf.mp z with z | z
          · exact q z
          · exact q2 z.1
theorem yo_ruleFor {post : Int32 → SY → Prop} {K : Nat → Nat → Nat} {O : Nat → Nat → Int32} {len : Nat → Nat} {n m : Nat} {tb : Nat → Nat → Nat → Int32} {M : Nat → Bool} {G : Nat → Int32} (T : tr_T b_parent n) (hm : m < n) (H : ∀ r, r < 6 → yr_H b_kind b_with b_bodyAt b_there b_value b_parent b_name K O len n tb r)
    (hM0 : ∀ r, r < 6 → b_there r = 0 → M r = false) (hM1 : ∀ r, r < 6 → b_there r = 1 → (M r = true ↔ ∃ b, b < n ∧ (m = b ∨ tr_a b_parent b m = true) ∧ bt (tb r 0 b) m = true))
    (hG : ∀ r x, r < 6 → x < 6 → b_there r = 1 → b_there x = 1 → (b_given r ≤ b_given x ↔ G r ≤ G x))
    (hp : ∀ (gl : Int32) (bl bw : Nat → Int32), post (bs_i (bs M b_priority G 6 0 none)) (nI n, g_inner, g_rules, g_place, gl, g_depth, g_row, g_pc, g_node, g_position, g_size, g_fault, g_put, g_steps, b_name, b_parent, b_value, b_kind, b_with, b_count, b_bodyAt, b_priority, b_given, b_there, b_wanted, b_waiting, bw, bl, b_left, b_reached, b_sizes, b_each, b_backRow, b_backPc, b_backNode, b_backPosition, b_backSize, b_output)) : wpY_ruleFor post (nI n, g_inner, g_rules, g_place, g_listed, g_depth, g_row, g_pc, g_node, g_position, g_size, g_fault, g_put, g_steps, b_name, b_parent, b_value, b_kind, b_with, b_count, b_bodyAt, b_priority, b_given, b_there, b_wanted, b_waiting, b_within, b_list, b_left, b_reached, b_sizes, b_each, b_backRow, b_backPc, b_backNode, b_backPosition, b_backSize, b_output) (nI m) := by
  unfold wpY_ruleFor
  exact yo_outT hm (by have := T.1; omega) (br_t rfl ⟨7, yo_rf_l T hm H hM0 hM1 hG 6 0 7 none g_listed b_list b_within rfl (by omega) (fun y hy => nomatch hy) hp⟩)
end
section
variable {n : Nat} {K : Nat → Nat → Nat} {len : Nat → Nat} {g : Nat} {f_innermost f_wrongToken f_wantedCount f_inCondition f_depth f_cursor f_outcome f_outputCount f_stepsTaken : Int32} {a_names a_values a_parents a_kinds a_operands a_priorities a_givenAt a_wanted a_axes a_passing a_ends a_openers a_table a_results a_matched a_listLeft a_listNode a_listPosition a_listSize a_listBody a_listReturn a_outputs : Nat → Int32} {g_listed g_depth g_row g_pc g_node g_position g_size g_fault : Int32} {b_kind b_with b_count b_bodyAt b_given b_there b_wanted b_waiting b_within b_list b_left b_reached b_sizes b_each b_backRow b_backPc b_backNode b_backPosition b_backSize : Nat → Int32}
/-- what is known of both sides behind the table and the matches -/
theorem rl_xt {k r : Nat} (S : rl_S a_kinds a_operands b_kind b_with K len r) (Rr : rl_R k K len a_givenAt b_count b_bodyAt b_given b_there r) : xt_S a_kinds a_operands K len r := by
  obtain ⟨s1, s2, s3, s4, s5⟩ := S
  rcases Rr with ⟨_, l0⟩ | ⟨_, W, _⟩
  · exact ⟨⟨s1, s2, fun c hc => absurd hc (by omega)⟩, s3, fun c hc => absurd hc (by omega)⟩
  · exact ⟨W, s3, fun c hc => (s5 c hc).2⟩
theorem rl_yH {k r : Nat} {E B Tb : Nat → Int32} (hr : r < 6) (S : rl_S a_kinds a_operands b_kind b_with K len r) (Rr : rl_R k K len a_givenAt b_count b_bodyAt b_given b_there r) (hD : xt_D a_operands a_values a_parents a_names K len n E B Tb 0 192) :
    yr_H b_kind b_with b_bodyAt b_there a_values a_parents a_names K (fun r x => a_operands (32 * r + x)) len n (fun r x a => Tb ((32 * r + x) * 24 + a)) r := by
  obtain ⟨s1, s2, s3, s4, s5⟩ := S
  rcases Rr with ⟨t0, _⟩ | ⟨t1, W, k15, hl, _, _, hb, _⟩
  · exact Or.inl t0
  · refine Or.inr ⟨t1, W, k15, hl, s4, fun x hx kx => ?_, hb, fun c hc => (hD r c (by omega) (by omega) (by omega)).2.1 hc⟩
    obtain ⟨v, v1, v2, v3⟩ := (s5 x hx).2 kx
    exact ⟨v, v1, v3⟩
theorem rl_G {k : Nat} (hk : k < 10000) (Rr : ∀ r, r < 6 → rl_R k K len a_givenAt b_count b_bodyAt b_given b_there r) : ∀ r x, r < 6 → x < 6 → b_there r = 1 → b_there x = 1 → (b_given r ≤ b_given x ↔ a_givenAt r ≤ a_givenAt x) := by
  intro r x hr hx t1 t2
  rcases Rr r hr with ⟨z, _⟩ | ⟨_, _, _, _, _, _, _, q, hq, q1, q2⟩
  · rw [t1] at z; exact absurd z (by decide)
  rcases Rr x hx with ⟨z, _⟩ | ⟨_, _, _, _, _, _, _, p, hp, p1, p2⟩
  · rw [t2] at z; exact absurd z (by decide)
  rw [q1, q2, p1, p2, nI_leI (by omega) (by omega), nI_leI (by omega) (by omega)]
  omega
theorem rl_M {k m : Nat} {Tb M : Nat → Int32} (hm : m < n) (Rr : ∀ r, r < 6 → rl_R k K len a_givenAt b_count b_bodyAt b_given b_there r) (S : ∀ r, r < 7 → rl_S a_kinds a_operands b_kind b_with K len r) (hM : ∀ r, r < 6 → ∀ i, i < n → (bt (M r) i = true ↔ K r 0 = 15 ∧ ∃ a, a < n ∧ bt (Tb (32 * r * 24 + a)) i = true ∧ (i = a ∨ tr_a a_parents a i = true))) :
    (∀ r, r < 6 → b_there r = 0 → bt (M r) m = false) ∧ (∀ r, r < 6 → b_there r = 1 → (bt (M r) m = true ↔ ∃ b, b < n ∧ (m = b ∨ tr_a a_parents b m = true) ∧ bt (Tb ((32 * r + 0) * 24 + b)) m = true)) := by
  constructor
  · intro r hr t0
    cases hb : bt (M r) m
    · rfl
    · have := ((hM r hr m hm).mp hb).1
      rcases Rr r hr with ⟨_, l0⟩ | ⟨t1, _⟩
      · have := (S r (by omega)).2.1 0 (by omega); omega
      · rw [t0] at t1; exact absurd t1 (by decide)
  · intro r hr t1
    have k15 : K r 0 = 15 := by
      rcases Rr r hr with ⟨t0, _⟩ | ⟨_, _, k15, _⟩
      · rw [t0] at t1; exact absurd t1 (by decide)
      · exact k15
    rw [hM r hr m hm]
    constructor
    · rintro ⟨_, a, a1, a2, a3⟩; exact ⟨a, a1, a3, a2⟩
    · rintro ⟨a, a1, a2, a3⟩; exact ⟨k15, a, a1, a3, a2⟩
end
theorem i_vc_ruleFor {k : Nat} {u : SX} {v : SY} (I : i_Rel k u v) (hk : k + 4 ≤ 2048) (v1 : Int32) : wpX_ruleFor (fun r u' => wpY_ruleFor (fun r' v' => r' = r ∧ i_Rel (k + 4) u' v') v v1) u v1 := by
  refine i_elim (Q := fun u v => wpX_ruleFor (fun r u' => wpY_ruleFor (fun r' v' => r' = r ∧ i_Rel (k + 4) u' v') v v1) u v1) I ?_
  intro n K len g f_innermost f_wrongToken f_wantedCount f_inCondition f_depth f_cursor f_outcome f_outputCount f_stepsTaken a_names a_values a_parents a_kinds a_operands a_priorities a_givenAt a_wanted a_axes a_passing a_ends a_openers a_table a_results a_matched a_listLeft a_listNode a_listPosition a_listSize a_listBody a_listReturn a_outputs g_listed g_depth g_row g_pc g_node g_position g_size g_fault b_kind b_with b_count b_bodyAt b_given b_there b_wanted b_waiting b_within b_list b_left b_reached b_sizes b_each b_backRow b_backPc b_backNode b_backPosition b_backSize R
  have R4 := rl_up (k' := k + 4) (by omega) R
  obtain ⟨h1, h2, h3, h4, h5, h6, h7⟩ := R4
  have hn := h1.1
  rcases so_ix v1 n (by omega) with q | ⟨m, hm, rfl⟩
  · have Y0 : wpY_ruleFor (fun r' v' => r' = -2 ∧ i_Rel (k + 4) (nI n, f_innermost, nI (len 6), nI g, f_wrongToken, f_wantedCount, f_inCondition, f_depth, f_cursor, f_outcome, f_outputCount, f_stepsTaken, a_names, a_values, a_parents, a_kinds, a_operands, a_priorities, a_givenAt, a_wanted, a_axes, a_passing, a_ends, a_openers, a_table, a_results, a_matched, a_listLeft, a_listNode, a_listPosition, a_listSize, a_listBody, a_listReturn, a_outputs) v') (nI n, f_innermost, nI g, f_wrongToken, g_listed, g_depth, g_row, g_pc, g_node, g_position, g_size, g_fault, f_outputCount, f_stepsTaken, a_names, a_parents, a_values, b_kind, b_with, b_count, b_bodyAt, a_priorities, b_given, b_there, b_wanted, b_waiting, b_within, b_list, b_left, b_reached, b_sizes, b_each, b_backRow, b_backPc, b_backNode, b_backPosition, b_backSize, a_outputs) v1 := by
      unfold wpY_ruleFor
      exact yo_outF q (br_f (by decide) ⟨rfl, i_mk (K := K) ⟨h1, h2, h3, h4, h5, h6, h7⟩⟩)
    unfold wpX_ruleFor
    exact xo_nodeF q (br_t rfl Y0)
  · unfold wpX_ruleFor
    refine xo_nodeT hm hn (br_f (by decide) ?_)
    refine xw_tabulate (lo := 0) (hi := 192) (K := K) (len := len) (by omega) (by omega) (by omega) (by omega) h1 h2 (fun r _ r2 => rl_xt (h6 r (by omega)) (h7 r (by omega))) fun A Q E B Tb Rs hA hD => ?_
    refine xo_match (K := K) hn hA (fun r hr => ⟨(h6 r (by omega)).2.2.1 0 (by omega), gm_k26 (rl_xt (h6 r (by omega)) (h7 r hr)).1 0⟩) fun M hM => ?_
    refine xo_best (by omega) ?_
    obtain ⟨m0, m1⟩ := rl_M hm h7 h6 hM
    exact yo_ruleFor (M := fun r => bt (M r) m) (G := a_givenAt) (tb := fun r x a => Tb ((32 * r + x) * 24 + a)) h1 hm (fun r hr => rl_yH hr (h6 r (by omega)) (h7 r hr) hD) m0 m1 (rl_G (by omega) h7) fun gl bl bw => ⟨rfl, i_mk (K := K) ⟨h1, h2, h3, h4, h5, h6, h7⟩⟩
