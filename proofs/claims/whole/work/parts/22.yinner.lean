/-! the reference: a number in a condition -/
variable {g_nodes g_inner g_rules g_place g_listed g_depth g_row g_pc g_node g_position g_size g_fault g_put g_steps : Int32} {b_name b_parent b_value b_kind b_with b_count b_bodyAt b_priority b_given b_there b_wanted b_waiting b_within b_list b_left b_reached b_sizes b_each b_backRow b_backPc b_backNode b_backPosition b_backSize b_output : Nat → Int32}
theorem yw_in32 {t : Nat} (h : t < 32) : vp_in (nI t) 32 := vp_in_nI h (by omega)
theorem yw_inner_l {post : Int32 → SY → Prop} {K : Nat → Nat} {O : Nat → Int32} {len y c n nd : Nat} {tb : Nat → Nat → Int32} {ps sz : Int32} (W : gm_W K len) (hy : y + 30 ≤ 210) (hk : ys_k b_kind b_with y K O len) (T : tr_T b_parent n) (hov : ∀ x, x < len → K x = 15 → ∃ v, v < 72 ∧ O x = nI v)
    (TE : ∀ c, c < len → nu_TE K O b_value b_parent b_name len n tb c) (hc : c < len) (k14 : K c ≤ 14) (hnd : nd < n) (hno : ∀ x, c ≤ x → x < gm_e K c → K x ≤ 15) (h16 : K (gm_e K c) ≠ 16)
    (hp : ∀ w : Nat → Int32, post (nu_n K O b_value tb nd ps sz c) (nI n, g_inner, g_rules, g_place, g_listed, g_depth, g_row, g_pc, g_node, g_position, g_size, g_fault, g_put, g_steps, b_name, b_parent, b_value, b_kind, b_with, b_count, b_bodyAt, b_priority, b_given, b_there, b_wanted, b_waiting, w, b_list, b_left, b_reached, b_sizes, b_each, b_backRow, b_backPc, b_backNode, b_backPosition, b_backSize, b_output)) :
    ∀ d f t w, c + d ≤ gm_e K c → d < f → ch_C K len (gm_e K c) (fun x => nu_n K O b_value tb nd ps sz x) w t (c + d) → wY_innerNumber_8 post (nI (y + c)) (nI (y + gm_e K c)) (nI nd) ps sz (nI n) g_inner g_rules g_place g_listed g_depth g_row g_pc g_node g_position g_size g_fault g_put g_steps f (nI t) (nI (y + c + d) - 1) b_name b_parent b_value b_kind b_with b_count b_bodyAt b_priority b_given b_there b_wanted b_waiting w b_list b_left b_reached b_sizes b_each b_backRow b_backPc b_backNode b_backPosition b_backSize b_output := by
  have hl := W.1
  have hn := T.1
  have hel := (W.2.2 c hc).2.1
  have hlt := (W.2.2 c hc).1
  intro d
  induction d with
  | zero =>
    intro f t w _ hf h
    obtain ⟨f, rfl⟩ : ∃ x, f = x + 1 := ⟨f - 1, by omega⟩
    have z := (ch_end hlt k14 rfl h).2
    refine br_t (xw_m1lt (by omega)) ?_
    rw [z]
    exact hp w
  | succ d ih =>
    intro f t w hd hf h
    obtain ⟨f, rfl⟩ : ∃ x, f = x + 1 := ⟨f - 1, by omega⟩
    have ex : nI (y + c + (d + 1)) - 1 = nI (y + (c + d)) := by
      rw [show y + c + (d + 1) = (y + (c + d)) + 1 by omega, nI_pred]
    rw [ex]
    have hj : c + d < len := by omega
    have L := W.2.2 (c + d) hj
    have lam := (W.2.2 c hc).2.2.1 (c + d) (by omega) (by omega)
    have hjk := hno (c + d) (by omega) (by omega)
    have tl := ch_len W hel (by omega) h
    have nx : ∀ t' w', ch_C K len (gm_e K c) (fun x => nu_n K O b_value tb nd ps sz x) w' t' (c + d) → ∀ x7, x7 = nI (y + (c + d)) + (-1) → wY_innerNumber_8 post (nI (y + c)) (nI (y + gm_e K c)) (nI nd) ps sz (nI n) g_inner g_rules g_place g_listed g_depth g_row g_pc g_node g_position g_size g_fault g_put g_steps f (nI t') x7 b_name b_parent b_value b_kind b_with b_count b_bodyAt b_priority b_given b_there b_wanted b_waiting w' b_list b_left b_reached b_sizes b_each b_backRow b_backPc b_backNode b_backPosition b_backSize b_output := fun t' w' h' => nm_r (e' := nI (y + c + d) - 1) (by rw [xw_m1, Nat.add_assoc]) (ih f t' w' (by omega) (by omega) h')
    refine br_f (nI_nlt (by omega) (by omega)) ⟨vp_in_nI (by omega) (by omega), nm_r (e' := nI (K (c + d))) (by rw [nI_clamp (by omega)]; exact (hk (c + d) hj).1) ?_⟩
    have leaf : K (c + d) ≤ 3 → ∀ x, x = nu_n K O b_value tb nd ps sz (c + d) → ch_C K len (gm_e K c) (fun x => nu_n K O b_value tb nd ps sz x) (upd w t x) (t + 1) (c + d) := fun k3 x hx => by
      refine ch_push hx (by omega) (by omega) ?_
      rw [L.2.2.2.1 k3]
      exact h
    by_cases k15 : K (c + d) = 15
    · rw [k15]
      exact br_t (by decide) (nx t w (ch_step W hj k15 h))
    refine br_f (fun z => k15 ((yw_knk W (k := 15) (by omega)).mp z)) ?_
    by_cases k3 : K (c + d) ≤ 3
    · refine br_t (nI_le (b := 3) k3 (by omega)) (br_f (nI_ge (b := 4) (by omega) (by omega)) (nm_r (nI_1 t) ?_))
      have ct : (nI t).toNatClampNeg = t := nI_clamp (by omega)
      rcases (show K (c + d) = 0 ∨ K (c + d) = 1 ∨ K (c + d) = 2 ∨ K (c + d) = 3 by omega) with k | k | k | k
      · rw [k]
        exact br_t (by decide) ⟨vp_in_nI (by omega) (by omega), yw_in32 (by omega), nm_r (e' := upd w t (O (c + d))) (by rw [ct, nI_clamp (by omega), (hk (c + d) hj).2]) (nx _ _ (leaf k3 _ (nu_n0 k).symm))⟩
      · rw [k]
        exact br_f (by decide) (br_t (by decide) ⟨yw_in32 (by omega), nm_r (e' := upd w t ps) (by rw [ct]) (nx _ _ (leaf k3 _ (nu_n1 k).symm))⟩)
      · rw [k]
        exact br_f (by decide) (br_f (by decide) (br_t (by decide) ⟨yw_in32 (by omega), nm_r (e' := upd w t sz) (by rw [ct]) (nx _ _ (leaf k3 _ (nu_n2 k).symm))⟩))
      · rw [k]
        exact br_f (by decide) (br_f (by decide) (br_f (by decide) ⟨vp_in_nI (by omega) (by omega), yw_in32 (by omega), nm_r (e' := upd w t (b_value nd)) (by rw [ct, nI_clamp (by omega)]) (nx _ _ (leaf k3 _ (nu_n3 k).symm))⟩))
    refine br_f (nI_ge (b := K (c + d)) (a := 3) (by omega) (by omega)) ?_
    by_cases k6 : K (c + d) ≤ 6
    · obtain ⟨p1, p2, p3⟩ := L.2.2.2.2.1 ⟨by omega, k6⟩
      refine br_f (nI_ge (b := 7) (by omega) (by omega)) ?_
      rw [show nI (y + (c + d)) + 1 = nI (y + (c + d + 1)) by rw [nI_1, Nat.add_assoc]]
      refine yw_plainPath (b_within := w) W hy hk T hel (fun x x1 x2 => ?_) hov TE p1 (by omega) (by omega) hnd (nm_r (nI_1 t) (yw_told hn (by omega) ⟨yw_in32 (by omega), nm_r (e' := upd w t (tb (c + d) nd)) ?_ (nx _ _ ?_)⟩))
      · rcases Nat.eq_or_lt_of_le x1 with e | e
        · rw [e]; exact h16
        · have := hno x (by omega) e; omega
      · rw [nI_clamp (by omega), (TE (c + d) hj nd hnd).2 ⟨by omega, k6⟩]
      · refine ch_push (nu_n6 (K := K) (c := c + d) (by omega) k6).symm (by omega) (by omega) ?_
        rw [p2]
        exact ch_path W (by omega) p1 h
    refine br_t (nI_le (a := 7) (by omega) (by omega)) (br_t (nI_le (a := 4) (by omega) (by omega)) ?_)
    by_cases kk : K (c + d) = 14
    · obtain ⟨p1, p2, p3⟩ := L.2.2.2.2.2.2.1 kk
      obtain ⟨s, rfl, ws, hs⟩ := ch_head (show c + d + 1 < gm_e K c by omega) p1 h
      rw [kk]
      refine br_t (by decide) ?_
      rw [nI_pred]
      refine ⟨yw_in32 (by omega), ?_⟩
      rw [nI_clamp (by omega)]
      have fin : ∀ x, x = nu_n K O b_value tb nd ps sz (c + d) → ch_C K len (gm_e K c) (fun x => nu_n K O b_value tb nd ps sz x) (upd w s x) (s + 1) (c + d) := fun x hx => ch_push hx (by omega) (by omega) (by rw [p2]; exact hs)
      have vv := nu_n14 (O := O) (V := b_value) (tb := tb) (nd := nd) (ps := ps) (sz := sz) W hj kk
      refine ⟨fun z => ⟨yw_in32 (by omega), nm_e (nx _ _ (fin _ ?_))⟩, fun z => ⟨yw_in32 (by omega), nm_e (nx _ _ (fin _ ?_))⟩⟩
      · rw [vv, if_pos (ws.symm.trans z)]
      · rw [vv, if_neg (fun q => z (ws.trans q))]
    · refine br_f (fun z => kk ((yw_knk W (k := 14) (by omega)).mp z)) ?_
      obtain ⟨p1, p2, p3, p4, p5⟩ := L.2.2.2.2.2.1 ⟨by omega, by omega⟩
      obtain ⟨s1, rfl, ws1, hs1⟩ := ch_head (show c + d + 1 < gm_e K c by omega) p1 h
      obtain ⟨s, rfl, ws, hs⟩ := ch_head (show gm_e K (c + d + 1) < gm_e K c by omega) p2 hs1
      refine nm_r (e' := nI (s + 1)) (pk_m1 (s + 1)) ⟨yw_in32 (by omega), ?_⟩
      rw [nI_pred]
      refine ⟨yw_in32 (by omega), ?_⟩
      rw [nI_clamp (by omega), nI_clamp (by omega)]
      refine yw_calc (by omega) (by omega) ⟨yw_in32 (by omega), nm_e (nx _ _ (ch_push ?_ (by omega) (by omega) (by rw [p5]; exact hs)))⟩
      rw [ws1, ws, nu_n13 W hj (by omega) (by omega)]
theorem yw_inner {post : Int32 → SY → Prop} {K : Nat → Nat} {O : Nat → Int32} {len y c n nd : Nat} {tb : Nat → Nat → Int32} {ps sz : Int32} (W : gm_W K len) (hy : y + 30 ≤ 210) (hk : ys_k b_kind b_with y K O len) (T : tr_T b_parent n) (hov : ∀ x, x < len → K x = 15 → ∃ v, v < 72 ∧ O x = nI v)
    (TE : ∀ c, c < len → nu_TE K O b_value b_parent b_name len n tb c) (hc : c < len) (k14 : K c ≤ 14) (hnd : nd < n) (hno : ∀ x, c ≤ x → x < gm_e K c → K x ≤ 15) (h17 : K (gm_e K c) = 17)
    (hp : ∀ w : Nat → Int32, post (nu_n K O b_value tb nd ps sz c) (nI n, g_inner, g_rules, g_place, g_listed, g_depth, g_row, g_pc, g_node, g_position, g_size, g_fault, g_put, g_steps, b_name, b_parent, b_value, b_kind, b_with, b_count, b_bodyAt, b_priority, b_given, b_there, b_wanted, b_waiting, w, b_list, b_left, b_reached, b_sizes, b_each, b_backRow, b_backPc, b_backNode, b_backPosition, b_backSize, b_output)) : wpY_innerNumber post (nI n, g_inner, g_rules, g_place, g_listed, g_depth, g_row, g_pc, g_node, g_position, g_size, g_fault, g_put, g_steps, b_name, b_parent, b_value, b_kind, b_with, b_count, b_bodyAt, b_priority, b_given, b_there, b_wanted, b_waiting, b_within, b_list, b_left, b_reached, b_sizes, b_each, b_backRow, b_backPc, b_backNode, b_backPosition, b_backSize, b_output) (nI (y + c)) (nI (y + gm_e K c)) (nI nd) ps sz := by
  have hlt := (W.2.2 c hc).1
  refine nm_r (e' := nI (y + c + (gm_e K c - c)) - 1) (by rw [show y + c + (gm_e K c - c) = y + gm_e K c by omega]) ⟨gm_e K c - c + 1, yw_inner_l W hy hk T hov TE hc k14 hnd hno (by omega) hp (gm_e K c - c) _ 0 b_within (by omega) (by omega) ?_⟩
  rw [show c + (gm_e K c - c) = gm_e K c by omega]
  exact ch_pr_self (by omega) (by omega)
