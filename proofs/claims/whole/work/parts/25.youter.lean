/-! the reference: a number anywhere -/
variable {g_nodes g_inner g_rules g_place g_listed g_depth g_row g_pc g_node g_position g_size g_fault g_put g_steps : Int32} {b_name b_parent b_value b_kind b_with b_count b_bodyAt b_priority b_given b_there b_wanted b_waiting b_within b_list b_left b_reached b_sizes b_each b_backRow b_backPc b_backNode b_backPosition b_backSize b_output : Nat → Int32}
theorem yw_outer30 {post : Int32 → SY → Prop} {J : Int32 → Int32 → Int32 → Int32 → Int32 → Int32 → Int32 → Int32 → Int32 → Int32 → Int32 → Int32 → Int32 → Int32 → Int32 → Int32 → (Nat → Int32) → (Nat → Int32) → (Nat → Int32) → (Nat → Int32) → (Nat → Int32) → (Nat → Int32) → (Nat → Int32) → (Nat → Int32) → (Nat → Int32) → (Nat → Int32) → (Nat → Int32) → (Nat → Int32) → (Nat → Int32) → (Nat → Int32) → (Nat → Int32) → (Nat → Int32) → (Nat → Int32) → (Nat → Int32) → (Nat → Int32) → (Nat → Int32) → (Nat → Int32) → (Nat → Int32) → (Nat → Int32) → (Nat → Int32) → Prop} {x1 x2 x3 x4 x5 x6 x8 : Int32} {K : Nat → Nat} {O : Nat → Int32} {len y o : Nat} (W : gm_W K len) (hy : y + 30 ≤ 210) (hk : ys_k b_kind b_with y K O len) (ho : o < len) (k16 : K o = 16) (hJ : wY_outerNumber_48 post J x1 x2 x3 x4 x5 x6 (nI (y + o)) x8 g_nodes g_inner g_rules g_place g_listed g_depth g_row g_pc g_node g_position g_size g_fault g_put g_steps b_name b_parent b_value b_kind b_with b_count b_bodyAt b_priority b_given b_there b_wanted b_waiting b_within b_list b_left b_reached b_sizes b_each b_backRow b_backPc b_backNode b_backPosition b_backSize b_output) :
    ∀ s f, o + s < len → s < f → (∀ x, o < x → x ≤ o + s → K x ≠ 16) → wY_outerNumber_30 post J x1 x2 x3 x4 x5 x6 x8 g_nodes g_inner g_rules g_place g_listed g_depth g_row g_pc g_node g_position g_size g_fault g_put g_steps b_name b_parent b_value b_kind b_with b_count b_bodyAt b_priority b_given b_there b_wanted b_waiting b_within b_list b_left b_reached b_sizes b_each b_backRow b_backPc b_backNode b_backPosition b_backSize b_output f (nI (y + (o + s))) := by
  have hl := W.1
  intro s
  induction s with
  | zero =>
    intro f _ hf _
    obtain ⟨f, rfl⟩ : ∃ x, f = x + 1 := ⟨f - 1, by omega⟩
    refine ⟨vp_in_nI (by omega) (by omega), ?_⟩
    rw [nI_clamp (by omega), Nat.add_zero, (hk o ho).1, k16]
    exact br_t (by decide) hJ
  | succ s ih =>
    intro f hs hf hx
    obtain ⟨f, rfl⟩ : ∃ x, f = x + 1 := ⟨f - 1, by omega⟩
    refine ⟨vp_in_nI (by omega) (by omega), ?_⟩
    rw [nI_clamp (by omega), (hk (o + (s + 1)) hs).1]
    exact br_f (fun z => hx (o + (s + 1)) (by omega) (Nat.le_refl _) ((yw_knk W (k := 16) (by omega)).mp z)) (nm_r (e' := nI (y + (o + s))) (by rw [show y + (o + (s + 1)) = (y + (o + s)) + 1 by omega]; exact pk_m1 _) (ih f (by omega) (by omega) fun x x1 x2 => hx x x1 (by omega)))
/-- no condition from c on is cut at i -/
def yo_N (K : Nat → Nat) (c i : Nat) : Prop := ∀ o, c ≤ o → o < i → K o = 16 → gm_e K o ≤ i
theorem yw_outer_l {post : Int32 → SY → Prop} {K : Nat → Nat} {O : Nat → Int32} {len y c n nd : Nat} {tb : Nat → Nat → Int32} {ps sz : Int32} (W : gm_W K len) (hy : y + 30 ≤ 210) (hk : ys_k b_kind b_with y K O len) (T : tr_T b_parent n) (hov : ∀ x, x < len → K x = 15 → ∃ v, v < 72 ∧ O x = nI v)
    (TE : ∀ c, c < len → nu_TE K O b_value b_parent b_name len n tb c) (hc : c < len) (k14 : K c ≤ 14) (hnd : nd < n) (hno : ∀ x, c ≤ x → x < gm_e K c → K x ≤ 17)
    (hp : ∀ (gl : Int32) (wt bl bw : Nat → Int32), post (nu_n K O b_value tb nd ps sz c) (nI n, g_inner, g_rules, g_place, gl, g_depth, g_row, g_pc, g_node, g_position, g_size, g_fault, g_put, g_steps, b_name, b_parent, b_value, b_kind, b_with, b_count, b_bodyAt, b_priority, b_given, b_there, b_wanted, wt, bw, bl, b_left, b_reached, b_sizes, b_each, b_backRow, b_backPc, b_backNode, b_backPosition, b_backSize, b_output)) :
    ∀ d f t gl w bl bw, c + d ≤ gm_e K c → d < f → yo_N K c (c + d) → ch_C K len (gm_e K c) (fun x => nu_n K O b_value tb nd ps sz x) w t (c + d) → wY_outerNumber_8 post (nI (y + c)) (nI (y + gm_e K c)) (nI nd) ps sz f (nI t) (nI (y + c + d) - 1) (nI n) g_inner g_rules g_place gl g_depth g_row g_pc g_node g_position g_size g_fault g_put g_steps b_name b_parent b_value b_kind b_with b_count b_bodyAt b_priority b_given b_there b_wanted w bw bl b_left b_reached b_sizes b_each b_backRow b_backPc b_backNode b_backPosition b_backSize b_output := by
  have hl := W.1
  have hn := T.1
  have hel := (W.2.2 c hc).2.1
  have hlt := (W.2.2 c hc).1
  intro d
  induction d using Nat.strongRecOn with
  | _ d ih =>
  cases d with
  | zero =>
    intro f t gl w bl bw _ hf _ h
    obtain ⟨f, rfl⟩ : ∃ x, f = x + 1 := ⟨f - 1, by omega⟩
    have z := (ch_end hlt k14 rfl h).2
    refine br_t (xw_m1lt (by omega)) ?_
    rw [z]
    exact hp gl w bl bw
  | succ d =>
    intro f t gl w bl bw hd hf hN h
    obtain ⟨f, rfl⟩ : ∃ x, f = x + 1 := ⟨f - 1, by omega⟩
    have ex : nI (y + c + (d + 1)) - 1 = nI (y + (c + d)) := by
      rw [show y + c + (d + 1) = (y + (c + d)) + 1 by omega, nI_pred]
    rw [ex]
    have hj : c + d < len := by omega
    have L := W.2.2 (c + d) hj
    have lam := (W.2.2 c hc).2.2.1 (c + d) (by omega) (by omega)
    have hjk := hno (c + d) (by omega) (by omega)
    have tl := ch_len W hel (by omega) h
    have nx : ∀ d' t' gl' w' bl' bw', d' ≤ d → yo_N K c (c + d') → ch_C K len (gm_e K c) (fun x => nu_n K O b_value tb nd ps sz x) w' t' (c + d') → ∀ x7, x7 = nI (y + (c + d')) + (-1) → wY_outerNumber_8 post (nI (y + c)) (nI (y + gm_e K c)) (nI nd) ps sz f (nI t') x7 (nI n) g_inner g_rules g_place gl' g_depth g_row g_pc g_node g_position g_size g_fault g_put g_steps b_name b_parent b_value b_kind b_with b_count b_bodyAt b_priority b_given b_there b_wanted w' bw' bl' b_left b_reached b_sizes b_each b_backRow b_backPc b_backNode b_backPosition b_backSize b_output := fun d' t' gl' w' bl' bw' hd' hN' h' => nm_r (e' := nI (y + c + d') - 1) (by rw [xw_m1, Nat.add_assoc]) (ih d' (by omega) f t' gl' w' bl' bw' (by omega) (by omega) hN' h')
    refine br_f (nI_nlt (by omega) (by omega)) ⟨vp_in_nI (by omega) (by omega), nm_r (e' := nI (K (c + d))) (by rw [nI_clamp (by omega)]; exact (hk (c + d) hj).1) ?_⟩
    by_cases k17 : K (c + d) = 17
    · obtain ⟨q1, o, o1, o2, o3⟩ := L.2.2.2.2.2.2.2.2.2.2.1 k17
      obtain ⟨p1, p2, p3, p4, p5⟩ := (W.2.2 o (by omega)).2.2.2.2.2.2.2.2.1 o2
      have oc : c ≤ o := by
        rcases Nat.lt_or_ge o c with z | z
        · exfalso
          have cj : c ≠ c + d := fun q => by rw [← q] at k17; omega
          have := (W.2.2 (o + 1) (by omega)).2.2.1 c (by omega) (by omega)
          omega
        · exact z
      rw [k17]
      refine br_t (by decide) ⟨len + 1, ?_⟩
      have := yw_outer30 (post := post) (J := wY_outerNumber_8 post (nI (y + c)) (nI (y + gm_e K c)) (nI nd) ps sz f) (x1 := nI (y + c)) (x2 := nI (y + gm_e K c)) (x3 := nI nd) (x4 := ps) (x5 := sz) (x6 := nI t) (x8 := nI 17) (g_nodes := nI n) (g_listed := gl) (b_waiting := w) (b_list := bl) (b_within := bw) (g_inner := g_inner) (g_rules := g_rules) (g_place := g_place) (g_depth := g_depth) (g_row := g_row) (g_pc := g_pc) (g_node := g_node) (g_position := g_position) (g_size := g_size) (g_fault := g_fault) (g_put := g_put) (g_steps := g_steps) (b_name := b_name) (b_parent := b_parent) (b_value := b_value) (b_count := b_count) (b_bodyAt := b_bodyAt) (b_priority := b_priority) (b_given := b_given) (b_there := b_there) (b_wanted := b_wanted) (b_left := b_left) (b_reached := b_reached) (b_sizes := b_sizes) (b_each := b_each) (b_backRow := b_backRow) (b_backPc := b_backPc) (b_backNode := b_backNode) (b_backPosition := b_backPosition) (b_backSize := b_backSize) (b_output := b_output) W hy hk (show o < len by omega) o2 ?_ (c + d - o) (len + 1) (by omega) (by omega) (fun x x1 x2 => ?_)
      · rw [show o + (c + d - o) = c + d by omega] at this
        exact this
      · refine br_t (by decide) ?_
        have e : o = c + (o - c) := by omega
        rw [e]
        refine nx (o - c) t gl w bl bw (by omega) (fun o' a1 a2 a3 => ?_) (by rw [← e]; exact ch_close hj (by omega) o2 o3 h)
        obtain ⟨r1, r2, r3, r4, r5⟩ := (W.2.2 o' (by omega)).2.2.2.2.2.2.2.2.1 a3
        rcases Nat.lt_or_ge o (gm_e K (o' + 1)) with z | z
        · have := r5 o (by omega) z; omega
        · rcases Nat.eq_or_lt_of_le z with q | q
          · rw [q, o2] at r3; omega
          · omega
      · rcases Nat.eq_or_lt_of_le x2 with q | q
        · rw [q, show o + (c + d - o) = c + d by omega, k17]; omega
        · have := p5 x (by omega) (by omega); omega
    refine br_f (fun z => k17 ((yw_knk W (k := 17) (by omega)).mp z)) (br_f (fun z => k17 ((yw_knk W (k := 17) (by omega)).mp z)) ?_)
    have k16 : K (c + d) ≠ 16 := fun z => by
      obtain ⟨p1, p2, p3, p4, p5⟩ := L.2.2.2.2.2.2.2.2.1 z
      have := hN (c + d) (by omega) (by omega) z
      omega
    have hN' : yo_N K c (c + d) := fun o a1 a2 a3 => by
      have z := hN o a1 (by omega) a3
      obtain ⟨r1, r2, r3, r4, r5⟩ := (W.2.2 o (by omega)).2.2.2.2.2.2.2.2.1 a3
      rcases Nat.eq_or_lt_of_le z with q | q
      · have : gm_e K (o + 1) = c + d := by omega
        rw [this] at r3
        exact absurd r3 k17
      · omega
    have nx' := fun t' gl' w' bl' bw' => nx d t' gl' w' bl' bw' (Nat.le_refl _) hN'
    have leaf : K (c + d) ≤ 3 → ∀ x, x = nu_n K O b_value tb nd ps sz (c + d) → ch_C K len (gm_e K c) (fun x => nu_n K O b_value tb nd ps sz x) (upd w t x) (t + 1) (c + d) := fun k3 x hx => by
      refine ch_push hx (by omega) (by omega) ?_
      rw [L.2.2.2.1 k3]
      exact h
    by_cases k15 : K (c + d) = 15
    · rw [k15]
      exact br_t (by decide) (nx' t gl w bl bw (ch_step W hj k15 h))
    refine br_f (fun z => k15 ((yw_knk W (k := 15) (by omega)).mp z)) ?_
    by_cases k3 : K (c + d) ≤ 3
    · refine br_t (nI_le (b := 3) k3 (by omega)) (br_f (nI_ge (b := 4) (by omega) (by omega)) (nm_r (nI_1 t) ?_))
      have ct : (nI t).toNatClampNeg = t := nI_clamp (by omega)
      rcases (show K (c + d) = 0 ∨ K (c + d) = 1 ∨ K (c + d) = 2 ∨ K (c + d) = 3 by omega) with k | k | k | k
      · rw [k]
        exact br_t (by decide) ⟨vp_in_nI (by omega) (by omega), yw_in32 (by omega), nm_r (e' := upd w t (O (c + d))) (by rw [ct, nI_clamp (by omega), (hk (c + d) hj).2]) (nx' _ _ _ _ _ (leaf k3 _ (nu_n0 k).symm))⟩
      · rw [k]
        exact br_f (by decide) (br_t (by decide) ⟨yw_in32 (by omega), nm_r (e' := upd w t ps) (by rw [ct]) (nx' _ _ _ _ _ (leaf k3 _ (nu_n1 k).symm))⟩)
      · rw [k]
        exact br_f (by decide) (br_f (by decide) (br_t (by decide) ⟨yw_in32 (by omega), nm_r (e' := upd w t sz) (by rw [ct]) (nx' _ _ _ _ _ (leaf k3 _ (nu_n2 k).symm))⟩))
      · rw [k]
        exact br_f (by decide) (br_f (by decide) (br_f (by decide) ⟨vp_in_nI (by omega) (by omega), yw_in32 (by omega), nm_r (e' := upd w t (b_value nd)) (by rw [ct, nI_clamp (by omega)]) (nx' _ _ _ _ _ (leaf k3 _ (nu_n3 k).symm))⟩))
    refine br_f (nI_ge (b := K (c + d)) (a := 3) (by omega) (by omega)) ?_
    by_cases k6 : K (c + d) ≤ 6
    · obtain ⟨p1, p2, p3⟩ := L.2.2.2.2.1 ⟨by omega, k6⟩
      refine br_f (nI_ge (b := 7) (by omega) (by omega)) ?_
      rw [show nI (y + (c + d)) + 1 = nI (y + (c + d + 1)) by rw [nI_1, Nat.add_assoc]]
      refine yw_path (b_waiting := w) W hy hk T hov TE hel p1 (by omega) (by omega) hnd fun gl' bl' bw' => nm_r (nI_1 t) (yw_told hn (by omega) ⟨yw_in32 (by omega), nm_r (e' := upd w t (tb (c + d) nd)) ?_ (nx' _ _ _ _ _ ?_)⟩)
      · rw [nI_clamp (by omega), (TE (c + d) hj nd hnd).2 ⟨by omega, k6⟩]
      · refine ch_push (nu_n6 (K := K) (c := c + d) (by omega) k6).symm (by omega) (by omega) ?_
        rw [p2]
        exact ch_path W (by omega) p1 h
    refine br_t (nI_le (a := 7) (by omega) (by omega)) (br_t (nI_le (a := 4) (by omega) (by omega)) ?_)
    by_cases kk : K (c + d) = 14
    · obtain ⟨p1, p2, p3⟩ := L.2.2.2.2.2.2.1 kk
      obtain ⟨s, rfl, ws, hs⟩ := ch_head (show c + d + 1 < gm_e K c by omega) p1 h
      rw [kk]
      refine br_t (by decide) ?_
      rw [nI_pred]
      refine ⟨yw_in32 (by omega), ?_⟩
      rw [nI_clamp (by omega)]
      have fin : ∀ x, x = nu_n K O b_value tb nd ps sz (c + d) → ch_C K len (gm_e K c) (fun x => nu_n K O b_value tb nd ps sz x) (upd w s x) (s + 1) (c + d) := fun x hx => ch_push hx (by omega) (by omega) (by rw [p2]; exact hs)
      have vv := nu_n14 (O := O) (V := b_value) (tb := tb) (nd := nd) (ps := ps) (sz := sz) W hj kk
      refine ⟨fun z => ⟨yw_in32 (by omega), nm_e (nx' _ _ _ _ _ (fin _ ?_))⟩, fun z => ⟨yw_in32 (by omega), nm_e (nx' _ _ _ _ _ (fin _ ?_))⟩⟩
      · rw [vv, if_pos (ws.symm.trans z)]
      · rw [vv, if_neg (fun q => z (ws.trans q))]
    · refine br_f (fun z => kk ((yw_knk W (k := 14) (by omega)).mp z)) ?_
      obtain ⟨p1, p2, p3, p4, p5⟩ := L.2.2.2.2.2.1 ⟨by omega, by omega⟩
      obtain ⟨s1, rfl, ws1, hs1⟩ := ch_head (show c + d + 1 < gm_e K c by omega) p1 h
      obtain ⟨s, rfl, ws, hs⟩ := ch_head (show gm_e K (c + d + 1) < gm_e K c by omega) p2 hs1
      refine nm_r (e' := nI (s + 1)) (pk_m1 (s + 1)) ⟨yw_in32 (by omega), ?_⟩
      rw [nI_pred]
      refine ⟨yw_in32 (by omega), ?_⟩
      rw [nI_clamp (by omega), nI_clamp (by omega)]
      refine yw_calc (by omega) (by omega) ⟨yw_in32 (by omega), nm_e (nx' _ _ _ _ _ (ch_push ?_ (by omega) (by omega) (by rw [p5]; exact hs)))⟩
      rw [ws1, ws, nu_n13 W hj (by omega) (by omega)]
theorem yw_outer {post : Int32 → SY → Prop} {K : Nat → Nat} {O : Nat → Int32} {len y c n nd : Nat} {tb : Nat → Nat → Int32} {ps sz : Int32} (W : gm_W K len) (hy : y + 30 ≤ 210) (hk : ys_k b_kind b_with y K O len) (T : tr_T b_parent n) (hov : ∀ x, x < len → K x = 15 → ∃ v, v < 72 ∧ O x = nI v)
    (TE : ∀ c, c < len → nu_TE K O b_value b_parent b_name len n tb c) (hc : c < len) (k14 : K c ≤ 14) (hnd : nd < n) (hno : ∀ x, c ≤ x → x < gm_e K c → K x ≤ 17) (hend : K (gm_e K c) ≠ 15 ∧ K (gm_e K c) ≠ 16)
    (hp : ∀ (gl : Int32) (wt bl bw : Nat → Int32), post (nu_n K O b_value tb nd ps sz c) (nI n, g_inner, g_rules, g_place, gl, g_depth, g_row, g_pc, g_node, g_position, g_size, g_fault, g_put, g_steps, b_name, b_parent, b_value, b_kind, b_with, b_count, b_bodyAt, b_priority, b_given, b_there, b_wanted, wt, bw, bl, b_left, b_reached, b_sizes, b_each, b_backRow, b_backPc, b_backNode, b_backPosition, b_backSize, b_output)) : wpY_outerNumber post (nI n, g_inner, g_rules, g_place, g_listed, g_depth, g_row, g_pc, g_node, g_position, g_size, g_fault, g_put, g_steps, b_name, b_parent, b_value, b_kind, b_with, b_count, b_bodyAt, b_priority, b_given, b_there, b_wanted, b_waiting, b_within, b_list, b_left, b_reached, b_sizes, b_each, b_backRow, b_backPc, b_backNode, b_backPosition, b_backSize, b_output) (nI (y + c)) (nI (y + gm_e K c)) (nI nd) ps sz := by
  have hlt := (W.2.2 c hc).1
  refine nm_r (e' := nI (y + c + (gm_e K c - c)) - 1) (by rw [show y + c + (gm_e K c - c) = y + gm_e K c by omega]) ⟨gm_e K c - c + 1, yw_outer_l W hy hk T hov TE hc k14 hnd hno hp (gm_e K c - c) _ 0 g_listed b_waiting b_list b_within (by omega) (by omega) (fun o a1 a2 a3 => ?_) ?_⟩
  · rw [show c + (gm_e K c - c) = gm_e K c by omega] at a2 ⊢
    exact (W.2.2 c hc).2.2.1 o a1 a2
  · rw [show c + (gm_e K c - c) = gm_e K c by omega]
    exact ch_pr_self hend.1 hend.2
