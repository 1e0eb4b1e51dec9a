/-! transform -/
section
variable {f_nodeCount f_innermost f_draftLength f_rulesGiven f_wrongToken f_wantedCount f_inCondition f_depth f_cursor f_outcome f_outputCount f_stepsTaken : Int32} {a_names a_values a_parents a_kinds a_operands a_priorities a_givenAt a_wanted a_axes a_passing a_ends a_openers a_table a_results a_matched a_listLeft a_listNode a_listPosition a_listSize a_listBody a_listReturn a_outputs : Nat → Int32}
variable {g_nodes g_inner g_rules g_place g_listed g_depth g_row g_pc g_node g_position g_size g_fault g_put g_steps : Int32} {b_name b_parent b_value b_kind b_with b_count b_bodyAt b_priority b_given b_there b_wanted b_waiting b_within b_list b_left b_reached b_sizes b_each b_backRow b_backPc b_backNode b_backPosition b_backSize b_output : Nat → Int32}
variable {n k : Nat} {K : Nat → Nat → Nat} {len : Nat → Nat} {P : Int32 → SX → Prop} {Z : (Int32 → SY → Prop) → Prop}
theorem tf_main (T : tr_T a_parents n) (hS : ∀ r, r < 7 → rl_S a_kinds a_operands b_kind b_with K len r) (hR : ∀ r, r < 6 → rl_R k K len a_givenAt b_count b_bodyAt b_given b_there r) (hk : k < 10000) (hA : xs_ax a_axes a_parents n) (hD : xt_D a_operands a_values a_parents a_names K len n a_ends a_openers a_table 0 192) (hM : ∀ r, r < 6 → ∀ i, i < n → (bt (a_matched r) i = true ↔ K r 0 = 15 ∧ ∃ a, a < n ∧ bt (a_table (32 * r * 24 + a)) i = true ∧ (i = a ∨ tr_a a_parents a i = true))) (hP : ∀ (rr : Int32) (d oc st : Nat) (cu row pc node pos size : Int32) (Rs LL LN LP LS LB LR ou BL BR BS BE BRow BPc BNode BPos BSz : Nat → Int32), (∀ post : Int32 → SY → Prop, (∀ (gl : Int32) (wt bl bw : Nat → Int32), post rr (nI n, g_inner, g_rules, g_place, gl, nI d, row, pc, node, pos, size, rr, nI oc, nI st, a_names, a_parents, a_values, b_kind, b_with, b_count, b_bodyAt, a_priorities, b_given, b_there, b_wanted, wt, bw, bl, BL, BR, BS, BE, BRow, BPc, BNode, BPos, BSz, ou)) → Z post) → P rr (nI n, f_innermost, f_draftLength, f_rulesGiven, f_wrongToken, f_wantedCount, f_inCondition, nI d, cu, rr, nI oc, nI st, a_names, a_values, a_parents, a_kinds, a_operands, a_priorities, a_givenAt, a_wanted, a_axes, a_passing, a_ends, a_openers, a_table, Rs, a_matched, LL, LN, LP, LS, LB, LR, ou)) : ∀ N : Nat, ∀ (t fX d st oc : Nat) (cu row pc node pos size : Int32) (Rs LL LN LP LS LB LR ou BL BR BS BE BRow BPc BNode BPos BSz : Nat → Int32), N < fX → (150 - st) * 64 + ph LR d + 2 * rm cu ≤ N → t + N ≤ 20000 → d ≤ 12 → st ≤ 150 → oc ≤ t → (∀ j, j < d → tl K len b_there n LL LN LP LS LB LR BL BR BS BE BRow BPc BNode BPos BSz j) → tu K len b_there n LN LP LS d cu row pc node pos size → (∀ post : Int32 → SY → Prop, (∃ f, ∀ (gl : Int32) (wt bl bw : Nat → Int32), wY_transform_40 post f (nI n) g_inner g_rules g_place gl (nI d) row pc node pos size 0 (nI oc) (nI st) a_names a_parents a_values b_kind b_with b_count b_bodyAt a_priorities b_given b_there b_wanted wt bw bl BL BR BS BE BRow BPc BNode BPos BSz ou) → Z post) → wX_transform_52 P fX (nI t) (nI n) f_innermost f_draftLength f_rulesGiven f_wrongToken f_wantedCount f_inCondition (nI d) cu 0 (nI oc) (nI st) a_names a_values a_parents a_kinds a_operands a_priorities a_givenAt a_wanted a_axes a_passing a_ends a_openers a_table Rs a_matched LL LN LP LS LB LR ou := by
  intro N
  induction N with
  | zero =>
    intro t fX d st oc cu row pc node pos size Rs LL LN LP LS LB LR ou BL BR BS BE BRow BPc BNode BPos BSz hfX hph htN hd hst hoc hl hu H
    obtain ⟨f, rfl⟩ : ∃ x, fX = x + 1 := ⟨fX - 1, by omega⟩
    cases d with
    | zero => exact br_f (nI_ge (b := 1000000) (by omega) (by decide)) (br_t (by decide) (hP 0 0 oc st cu row pc node pos size Rs LL LN LP LS LB LR ou BL BR BS BE BRow BPc BNode BPos BSz fun post hpost => H post ⟨1, fun gl wt bl bw => br_t (by decide) (hpost gl wt bl bw)⟩))
    | succ e => rw [ph] at hph; omega
  | succ N ih =>
    intro t fX d st oc cu row pc node pos size Rs LL LN LP LS LB LR ou BL BR BS BE BRow BPc BNode BPos BSz hfX hph htN hd hst hoc hl hu H
    obtain ⟨f, rfl⟩ : ∃ x, fX = x + 1 := ⟨fX - 1, by omega⟩
    cases d with
    | zero => exact br_f (nI_ge (b := 1000000) (by omega) (by decide)) (br_t (by decide) (hP 0 0 oc st cu row pc node pos size Rs LL LN LP LS LB LR ou BL BR BS BE BRow BPc BNode BPos BSz fun post hpost => H post ⟨1, fun gl wt bl bw => br_t (by decide) (hpost gl wt bl bw)⟩))
    | succ e =>
      have dne : ¬ nI (e + 1) ≤ 0 := nI_nle (by omega) (by omega)
      refine br_f (nI_ge (b := 1000000) (by omega) (by decide)) (br_f dne (br_t rfl ?_))
      rcases hu with ⟨hcu, hrow⟩ | ⟨r, c, p, hcu, hrow, hpc, i, a, ei, ha, hLN, hnode, hpos, hsize⟩
      · subst hcu hrow
        have k6 := hS 6 (by omega)
        have k27 : a_kinds 223 = nI 27 := by
          have z := k6.2.2.1 31 (by omega)
          rw [k6.2.1 31 (by have := k6.1; omega)] at z
          exact z
        exact xe_A (by omega) (by omega) k27 (tf_adv T hS hR hk hA hD hM hP ih t f e st oc (nI 223) (-1) pc node pos size Rs LL LN LP LS LB LR ou BL BR BS BE BRow BPc BNode BPos BSz (by omega) (by omega) (by omega) (by omega) hst hoc hl H)
      · have ee : i = e := by omega
        subst hcu hrow hpc hnode hpos hsize
        subst ee
        have r6 := p.1
        have l30 := p.2.2.2
        have c30 : c ≤ 30 := by rcases p.2.2.1 with y | y <;> omega
        rw [rm_c r6 c30] at hph
        have hcnt : b_count r = nI (len r) := by
          rcases hR r r6 with ⟨z, _⟩ | ⟨_, _, _, _, _, z, _⟩
          · rw [p.2.1] at z; exact absurd z (by decide)
          · exact z
        rcases p.2.2.1 with cl | ⟨cl, k20, k26⟩
        · subst cl
          have kr := hS r (by omega)
          have k27 : a_kinds (32 * r + len r) = nI 27 := by
            have z := kr.2.2.1 (len r) (by omega)
            rw [kr.2.1 (len r) (Nat.le_refl _)] at z
            exact z
          exact xe_A (by omega) (by omega) k27 (tf_adv T hS hR hk hA hD hM hP ih t f i st oc _ (-1) (nI (30 * r + len r)) (nI a) (LP i) (LS i) Rs LL LN LP LS LB LR ou BL BR BS BE BRow BPc BNode BPos BSz (by omega) (by omega) (by omega) (by omega) hst hoc hl fun post ⟨g, hg⟩ => H post ⟨g + 1, fun gl wt bl bw => br_f dne (br_t rfl (br_t (nI_pos' (by omega)) (ye_E r6 l30 hcnt (hg gl wt bl bw))))⟩)
        · exact tf_tok T hS hR hk hA hD hM hP ih t f i st oc r c a Rs LL LN LP LS LB LR ou BL BR BS BE BRow BPc BNode BPos BSz (by omega) r6 p.2.1 cl k20 k26 ha hLN (by omega) (by omega) (by omega) hst hoc hl H
end
theorem i_vc_transform {k : Nat} {u : SX} {v : SY} (I : i_Rel k u v) (hk : k + 4 ≤ 2048) : wpX_transform (fun r u' => wpY_transform (fun r' v' => r' = r ∧ i_Rel (k + 4) u' v') v) u := by
  refine i_elim (Q := fun u v => wpX_transform (fun r u' => wpY_transform (fun r' v' => r' = r ∧ i_Rel (k + 4) u' v') v) u) I ?_
  intro n K len g f_innermost f_wrongToken f_wantedCount f_inCondition f_depth f_cursor f_outcome f_outputCount f_stepsTaken a_names a_values a_parents a_kinds a_operands a_priorities a_givenAt a_wanted a_axes a_passing a_ends a_openers a_table a_results a_matched a_listLeft a_listNode a_listPosition a_listSize a_listBody a_listReturn a_outputs g_listed g_depth g_row g_pc g_node g_position g_size g_fault b_kind b_with b_count b_bodyAt b_given b_there b_wanted b_waiting b_within b_list b_left b_reached b_sizes b_each b_backRow b_backPc b_backNode b_backPosition b_backSize R
  have R4 := rl_up (k' := k + 4) (by omega) R
  obtain ⟨h1, h2, h3, h4, h5, h6, h7⟩ := R4
  have hn := h1.1
  rcases Nat.eq_zero_or_pos n with n0 | n0
  · have e0 : nI n = 0 := by rw [n0]; rfl
    exact br_t e0 (br_t e0 ⟨rfl, i_mk (K := K) ⟨h1, h2, h3, h4, h5, h6, h7⟩⟩)
  · have e0 : ¬ nI n = 0 := nI_ne0 n0 (by omega)
    refine br_f e0 ?_
    refine xw_tabulate (lo := 0) (hi := 192) (K := K) (len := len) (by omega) (by omega) (by omega) (by omega) h1 h2 (fun r _ r2 => rl_xt (h6 r (by omega)) (h7 r (by omega))) fun A Q E B Tb Rs hA hD => ?_
    refine xo_match (K := K) hn hA (fun r hr => ⟨(h6 r (by omega)).2.2.1 0 (by omega), gm_k26 (rl_xt (h6 r (by omega)) (h7 r hr)).1 0⟩) fun M hM => ?_
    refine xt_beginT (d := 0) (by omega) ⟨9602, ?_⟩
    have b1 : ∀ i, i < 32 → bt 1 i = true → i < n := fun i hi z => by
      rw [ms_one i hi, decide_eq_true_eq] at z; omega
    refine tf_main (n := n) (k := k + 4) (K := K) (len := len) (Z := fun post => wpY_transform post (nI n, f_innermost, nI g, f_wrongToken, g_listed, g_depth, g_row, g_pc, g_node, g_position, g_size, g_fault, f_outputCount, f_stepsTaken, a_names, a_parents, a_values, b_kind, b_with, b_count, b_bodyAt, a_priorities, b_given, b_there, b_wanted, b_waiting, b_within, b_list, b_left, b_reached, b_sizes, b_each, b_backRow, b_backPc, b_backNode, b_backPosition, b_backSize, a_outputs)) (g_inner := f_innermost) (g_rules := nI g) (g_place := f_wrongToken) (b_kind := b_kind) (b_with := b_with) (b_count := b_count) (b_bodyAt := b_bodyAt) (b_given := b_given) (b_there := b_there) (b_wanted := b_wanted) h1 h6 h7 (by omega) hA hD hM (fun rr d oc st cu row pc node pos size Rs LL LN LP LS LB LR ou BL BR BS BE BRow BPc BNode BPos BSz hZ => ?_) 9601 0 9602 1 0 0 (nI 223) (-1) g_pc g_node g_position g_size Rs _ _ _ _ _ _ _ (upd b_left 0 1) (upd b_reached 0 0) (upd b_sizes 0 (nI (nu_cnt 1 n))) (upd b_each 0 (-1)) (upd b_backRow 0 (-1)) (upd b_backPc 0 g_pc) (upd b_backNode 0 g_node) (upd b_backPosition 0 g_position) (upd b_backSize 0 g_size) (by omega) ?_ (by omega) (by omega) (by omega) (by omega) ?_ (Or.inl ⟨rfl, rfl⟩) (fun post ⟨f, hf⟩ => br_f e0 (yt_beginT (d := 0) hn (by omega) ⟨f, hf g_listed b_waiting b_list b_within⟩))
    · exact hZ _ fun gl wt bl bw => ⟨rfl, i_mk (K := K) ⟨h1, h2, h3, h4, h5, h6, h7⟩⟩
    · rw [ph, ph, pk_us, show rm 223 = 0 from rm_i, rm_i]; omega
    · intro j hj
      have ej : j = 0 := by omega
      subst ej
      refine ⟨by rw [pk_us, pk_us], fun i hi z => ?_, by rw [pk_us, pk_us], by rw [pk_us, pk_us, me_24 hn b1], Or.inl ⟨pk_us, pk_us⟩, Or.inl ⟨pk_us, pk_us⟩⟩
      rw [pk_us] at z
      exact b1 i hi z
