/-! the reference: the list of a STEP -/
variable {g_nodes g_inner g_rules g_place g_listed g_depth g_row g_pc g_node g_position g_size g_fault g_put g_steps : Int32} {b_name b_parent b_value b_kind b_with b_count b_bodyAt b_priority b_given b_there b_wanted b_waiting b_within b_list b_left b_reached b_sizes b_each b_backRow b_backPc b_backNode b_backPosition b_backSize b_output : Nat → Int32}
theorem yw_nb : ∀ m, m < 128 → (nI m).toInt8.toInt32.toInt8.toInt32 = nI m := by decide +kernel
theorem yw_nar {m : Nat} (h : m < 128) : vp_nar .byte (nI m).toInt8.toInt32 = nI m := by rw [vp_nar_byte]; exact yw_nb m h
/-- the list L lies in the array bl -/
def la (bl : Nat → Int32) (L : List Nat) : Prop := ∀ k m, L[k]? = some m → bl k = nI m
theorem la_0 {bl : Nat → Int32} : la bl [] := fun k m h => by simp at h
theorem la_p {bl : Nat → Int32} {L : List Nat} {m : Nat} (h : la bl L) : la (upd bl L.length (nI m)) (L ++ [m]) := fun k x hx => by
  rw [List.getElem?_append] at hx
  by_cases z : k < L.length
  · rw [if_pos z] at hx
    rw [pk_un (by omega)]; exact h k x hx
  · rw [if_neg z] at hx
    have hk : k - L.length = 0 := by
      rcases Nat.eq_zero_or_pos (k - L.length) with q | q
      · exact q
      · obtain ⟨p, hp⟩ : ∃ p, k - L.length = p + 1 := ⟨k - L.length - 1, by omega⟩
        rw [hp] at hx
        simp at hx
    rw [hk] at hx
    have e : k = L.length := by omega
    have : m = x := by simpa using hx
    rw [e, pk_us, this]
theorem ls_Td (back : Bool) {n k : Nat} (hk : k < n) : (ls_T back n).drop k = (if back = true then n - 1 - k else k) :: (ls_T back n).drop (k + 1) := by
  have hl : k < (ls_T back n).length := by
    unfold ls_T
    cases back <;> simp <;> exact hk
  rw [List.drop_eq_getElem_cons hl]
  congr 1
  cases back
  · simp [ls_T]
  · simp [ls_T]
theorem yw_list37 {post : SY → Prop} {n at' v a : Nat} {back : Bool} {x2 x5 : Int32} (h5 : x5 = if back = true then 1 else 0) (T : tr_T b_parent n) (hat : at' < 210) (hw : b_with at' = nI v) (hv : v < 72) (ha : a < n)
    (hp : ∀ bl, la bl ((ls_T back n).filter (tr_s b_parent b_name v a)) → ∃ k, wY_listOf_108 post x2 k (nI at' + 1) (nI n) g_inner g_rules g_place (nI ((ls_T back n).filter (tr_s b_parent b_name v a)).length) g_depth g_row g_pc g_node g_position g_size g_fault g_put g_steps b_name b_parent b_value b_kind b_with b_count b_bodyAt b_priority b_given b_there b_wanted b_waiting b_within bl b_left b_reached b_sizes b_each b_backRow b_backPc b_backNode b_backPosition b_backSize b_output) :
    ∀ d k f D bl, k + d = n → d < f → la bl D → D.length ≤ k → D ++ ((ls_T back n).drop k).filter (tr_s b_parent b_name v a) = (ls_T back n).filter (tr_s b_parent b_name v a) → wY_listOf_37 post (nI at') x2 (nI a) x5 (nI n) g_inner g_rules g_place g_depth g_row g_pc g_node g_position g_size g_fault g_put g_steps f (nI k) (nI D.length) b_name b_parent b_value b_kind b_with b_count b_bodyAt b_priority b_given b_there b_wanted b_waiting b_within bl b_left b_reached b_sizes b_each b_backRow b_backPc b_backNode b_backPosition b_backSize b_output := by
  have hn := T.1
  intro d
  induction d with
  | zero =>
    intro k f D bl hk hf hl hD e
    obtain ⟨f, rfl⟩ : ∃ x, f = x + 1 := ⟨f - 1, by omega⟩
    have e' : k = n := by omega
    subst e'
    have e0 : (ls_T back k).drop k = [] := by
      apply List.drop_eq_nil_of_le
      unfold ls_T
      cases back <;> simp
    rw [e0, List.filter_nil, List.append_nil] at e
    subst e
    exact br_t (nI_le (Nat.le_refl _) (by omega)) (nm_e (hp bl hl))
  | succ d ih =>
    intro k f D bl hk hf hl hD e
    obtain ⟨f, rfl⟩ : ∃ x, f = x + 1 := ⟨f - 1, by omega⟩
    have td := ls_Td back (show k < n by omega)
    rw [td] at e
    have body : ∀ m, m < n → D ++ (m :: (ls_T back n).drop (k + 1)).filter (tr_s b_parent b_name v a) = (ls_T back n).filter (tr_s b_parent b_name v a) → wY_listOf_65 post (wY_listOf_37 post (nI at') x2 (nI a) x5 (nI n) g_inner g_rules g_place g_depth g_row g_pc g_node g_position g_size g_fault g_put g_steps f) (nI at') x2 (nI a) x5 (nI k) (nI m) (nI n) g_inner g_rules g_place (nI D.length) g_depth g_row g_pc g_node g_position g_size g_fault g_put g_steps b_name b_parent b_value b_kind b_with b_count b_bodyAt b_priority b_given b_there b_wanted b_waiting b_within bl b_left b_reached b_sizes b_each b_backRow b_backPc b_backNode b_backPosition b_backSize b_output := by
      intro m hm e
      refine yw_onStep T hat hw hv ha hm (ys_b0 (fun z => nm_r (nI_1 k) (ih (k + 1) f D bl (by omega) (by omega) hl (by omega) ?_)) (fun z => nm_r (nI_1 D.length) ⟨vp_in_nI (by omega) (by omega), nm_r (e' := upd bl D.length (nI m)) (by rw [nI_clamp (by omega), yw_nar (by omega)]) (nm_r (nI_1 k) ?_)⟩))
      · rw [List.filter_cons_of_neg (by rw [z]; decide)] at e
        exact e
      · rw [List.filter_cons_of_pos z] at e
        have := ih (k + 1) f (D ++ [m]) _ (by omega) (by omega) (la_p hl) (by simp; omega) (by simpa using e)
        simpa using this
    refine br_f (nI_ge (by omega) (by omega)) ?_
    cases back
    · exact br_t (by rw [h5]; rfl) (body k (by omega) e)
    · refine br_f (by rw [h5]; decide) ?_
      obtain ⟨n', rfl⟩ : ∃ x, n = x + 1 := ⟨n - 1, by omega⟩
      rw [nI_pred, pk_sub (by omega)]
      exact body (n' - k) (by omega) (by simpa using e)
theorem yw_list162 {post : SY → Prop} {J : Int32 → Int32 → Int32 → Int32 → Int32 → Int32 → Int32 → Int32 → Int32 → Int32 → Int32 → Int32 → Int32 → Int32 → Int32 → (Nat → Int32) → (Nat → Int32) → (Nat → Int32) → (Nat → Int32) → (Nat → Int32) → (Nat → Int32) → (Nat → Int32) → (Nat → Int32) → (Nat → Int32) → (Nat → Int32) → (Nat → Int32) → (Nat → Int32) → (Nat → Int32) → (Nat → Int32) → (Nat → Int32) → (Nat → Int32) → (Nat → Int32) → (Nat → Int32) → (Nat → Int32) → (Nat → Int32) → (Nat → Int32) → (Nat → Int32) → (Nat → Int32) → (Nat → Int32) → Prop} {K : Nat → Nat} {O : Nat → Int32} {len y c n : Nat} {tb : Nat → Nat → Int32} {x2 : Int32} (W : gm_W K len) (hy : y + 30 ≤ 210) (hk : ys_k b_kind b_with y K O len) (T : tr_T b_parent n) (hov : ∀ x, x < len → K x = 15 → ∃ v, v < 72 ∧ O x = nI v)
    (TE : ∀ c, c < len → nu_TE K O b_value b_parent b_name len n tb c) (hc : c < len) (k16 : K c = 16) {L : List Nat} (hL : ∀ m, m ∈ L → m < n) (hL24 : L.length ≤ 24) {G : Nat → Nat → Bool} (hG : G = fun m p => decide (nu_n K O b_value tb m (nI p) (nI L.length) (c + 1) ≠ 0))
    (hJ : ∀ bl bw, la bl (ls_f G 0 L) → J (nI (y + gm_e K c)) (nI n) g_inner g_rules g_place (nI (ls_f G 0 L).length) g_depth g_row g_pc g_node g_position g_size g_fault g_put g_steps b_name b_parent b_value b_kind b_with b_count b_bodyAt b_priority b_given b_there b_wanted b_waiting bw bl b_left b_reached b_sizes b_each b_backRow b_backPc b_backNode b_backPosition b_backSize b_output) :
    ∀ d k f D bl bw, k + d = L.length → d < f → la bl D → (∀ j m, k ≤ j → L[j]? = some m → bl j = nI m) → D.length ≤ k → D ++ ls_f G k (L.drop k) = ls_f G 0 L → wY_listOf_162 post J x2 (nI (y + c)) (nI (y + gm_e K (c + 1))) (nI L.length) f (nI k) (nI n) g_inner g_rules g_place (nI D.length) g_depth g_row g_pc g_node g_position g_size g_fault g_put g_steps b_name b_parent b_value b_kind b_with b_count b_bodyAt b_priority b_given b_there b_wanted b_waiting bw bl b_left b_reached b_sizes b_each b_backRow b_backPc b_backNode b_backPosition b_backSize b_output := by
  have hl := W.1
  have hn := T.1
  obtain ⟨o1, o2, o3, o4, o5⟩ := (W.2.2 c hc).2.2.2.2.2.2.2.2.1 k16
  have hel := (W.2.2 c hc).2.1
  intro d
  induction d with
  | zero =>
    intro k f D bl bw hk' hf h1 h2 h3 e
    obtain ⟨f, rfl⟩ : ∃ x, f = x + 1 := ⟨f - 1, by omega⟩
    have e' : k = L.length := by omega
    subst e'
    have e0 : L.drop L.length = [] := List.drop_eq_nil_of_le (Nat.le_refl _)
    rw [e0, ls_f, List.append_nil] at e
    subst e
    exact br_t (nI_le (Nat.le_refl _) (by omega)) (nm_r (e' := nI (y + gm_e K c)) (by rw [nI_1, Nat.add_assoc, o4]) (hJ bl bw h1))
  | succ d ih =>
    intro k f D bl bw hk' hf h1 h2 h3 e
    obtain ⟨f, rfl⟩ : ∃ x, f = x + 1 := ⟨f - 1, by omega⟩
    have kl : k < L.length := by omega
    have td : L.drop k = L[k] :: L.drop (k + 1) := List.drop_eq_getElem_cons kl
    have hm : L[k] < n := hL _ (List.getElem_mem kl)
    have bk : bl k = nI L[k] := h2 k _ (Nat.le_refl _) (by simp)
    generalize L[k] = m at td hm bk
    rw [td, ls_f] at e
    refine br_f (nI_ge (by omega) (by omega)) ⟨vp_in_nI (by omega) (by omega), nm_r (e' := nI m) (by rw [nI_clamp (by omega)]; exact bk) ?_⟩
    rw [show nI (y + c) + 1 = nI (y + (c + 1)) by rw [nI_1, Nat.add_assoc], nI_1 k]
    refine yw_inner (b_list := bl) W hy hk T hov TE (by omega) o1 hm o5 o3 fun bw' => ?_
    by_cases hz : nu_n K O b_value tb m (nI (k + 1)) (nI L.length) (c + 1) = 0
    · have g : ¬ G m (k + 1) = true := by rw [hG]; simp [hz]
      rw [if_neg g] at e
      exact br_t hz (nm_e (ih (k + 1) f D bl bw' (by omega) (by omega) h1 (fun j m' hj => h2 j m' (by omega)) (by omega) e))
    · have g : G m (k + 1) = true := by rw [hG]; simp [hz]
      rw [if_pos g] at e
      refine br_f hz (nm_r (nI_1 D.length) ⟨vp_in_nI (by omega) (by omega), nm_r (e' := upd bl D.length (nI m)) (by rw [nI_clamp (by omega), yw_nar (by omega)]) (nm_e ?_)⟩)
      have := ih (k + 1) f (D ++ [m]) (upd bl D.length (nI m)) bw' (by omega) (by omega) (la_p h1) (fun j m' hj hh => by rw [pk_un (by omega)]; exact h2 j m' (by omega) hh) (by simp; omega) (by simpa using e)
      simpa using this
theorem yw_list130 {post : SY → Prop} {J : Int32 → Int32 → Int32 → Int32 → Int32 → Int32 → Int32 → Int32 → Int32 → Int32 → Int32 → Int32 → Int32 → Int32 → Int32 → (Nat → Int32) → (Nat → Int32) → (Nat → Int32) → (Nat → Int32) → (Nat → Int32) → (Nat → Int32) → (Nat → Int32) → (Nat → Int32) → (Nat → Int32) → (Nat → Int32) → (Nat → Int32) → (Nat → Int32) → (Nat → Int32) → (Nat → Int32) → (Nat → Int32) → (Nat → Int32) → (Nat → Int32) → (Nat → Int32) → (Nat → Int32) → (Nat → Int32) → (Nat → Int32) → (Nat → Int32) → (Nat → Int32) → (Nat → Int32) → Prop} {K : Nat → Nat} {O : Nat → Int32} {len y e : Nat} {x2 x6 : Int32} (W : gm_W K len) (hy : y + 30 ≤ 210) (hk : ys_k b_kind b_with y K O len) (he : e < len) (k17 : K e = 17) (hJ : ∃ k, wY_listOf_162 post J x2 x6 (nI (y + e)) g_listed k 0 g_nodes g_inner g_rules g_place 0 g_depth g_row g_pc g_node g_position g_size g_fault g_put g_steps b_name b_parent b_value b_kind b_with b_count b_bodyAt b_priority b_given b_there b_wanted b_waiting b_within b_list b_left b_reached b_sizes b_each b_backRow b_backPc b_backNode b_backPosition b_backSize b_output) :
    ∀ d j f, j + d = e → d < f → (∀ x, j ≤ x → x < e → K x ≠ 17) → wY_listOf_130 post J x2 x6 g_nodes g_inner g_rules g_place g_listed g_depth g_row g_pc g_node g_position g_size g_fault g_put g_steps b_name b_parent b_value b_kind b_with b_count b_bodyAt b_priority b_given b_there b_wanted b_waiting b_within b_list b_left b_reached b_sizes b_each b_backRow b_backPc b_backNode b_backPosition b_backSize b_output f (nI (y + j)) := by
  have hl := W.1
  intro d
  induction d with
  | zero =>
    intro j f hj hf _
    obtain ⟨f, rfl⟩ : ∃ x, f = x + 1 := ⟨f - 1, by omega⟩
    have e' : j = e := by omega
    subst e'
    refine ⟨vp_in_nI (by omega) (by omega), ?_⟩
    rw [nI_clamp (by omega), (hk j he).1, k17]
    exact br_t (by decide) hJ
  | succ d ih =>
    intro j f hj hf hx
    obtain ⟨f, rfl⟩ : ∃ x, f = x + 1 := ⟨f - 1, by omega⟩
    refine ⟨vp_in_nI (by omega) (by omega), ?_⟩
    rw [nI_clamp (by omega), (hk j (by omega)).1]
    exact br_f (fun z => hx j (Nat.le_refl _) (by omega) ((yw_knk W (k := 17) (by omega)).mp z)) (nm_r (e' := nI (y + (j + 1))) (by rw [nI_1, Nat.add_assoc]) (ih (j + 1) f (by omega) (by omega) fun x x1 x2 => hx x (by omega) x2))
theorem yw_list108 {post : SY → Prop} {K : Nat → Nat} {O : Nat → Int32} {len y en q n : Nat} {tb : Nat → Nat → Int32} (W : gm_W K len) (hy : y + 30 ≤ 210) (hk : ys_k b_kind b_with y K O len) (T : tr_T b_parent n) (hov : ∀ x, x < len → K x = 15 → ∃ v, v < 72 ∧ O x = nI v)
    (TE : ∀ c, c < len → nu_TE K O b_value b_parent b_name len n tb c) (hen : en ≤ len) (hq : q ≤ en) {Lf : List Nat}
    (hp : ∀ bl bw, la bl Lf → post (nI n, g_inner, g_rules, g_place, nI Lf.length, g_depth, g_row, g_pc, g_node, g_position, g_size, g_fault, g_put, g_steps, b_name, b_parent, b_value, b_kind, b_with, b_count, b_bodyAt, b_priority, b_given, b_there, b_wanted, b_waiting, bw, bl, b_left, b_reached, b_sizes, b_each, b_backRow, b_backPc, b_backNode, b_backPosition, b_backSize, b_output)) :
    ∀ h j f g L bl bw, gm_cd K len h j q → q - j < f → q ≤ j + g → nu_cd K O b_value tb g j L = Lf → (∀ m, m ∈ L → m < n) → L.length ≤ 24 → la bl L → wY_listOf_108 post (nI (y + en)) f (nI (y + j)) (nI n) g_inner g_rules g_place (nI L.length) g_depth g_row g_pc g_node g_position g_size g_fault g_put g_steps b_name b_parent b_value b_kind b_with b_count b_bodyAt b_priority b_given b_there b_wanted b_waiting bw bl b_left b_reached b_sizes b_each b_backRow b_backPc b_backNode b_backPosition b_backSize b_output := by
  have hl := W.1
  have hn := T.1
  have stop : ∀ f g L bl bw, K q ≠ 16 → nu_cd K O b_value tb g q L = Lf → la bl L → wY_listOf_108 post (nI (y + en)) (f + 1) (nI (y + q)) (nI n) g_inner g_rules g_place (nI L.length) g_depth g_row g_pc g_node g_position g_size g_fault g_put g_steps b_name b_parent b_value b_kind b_with b_count b_bodyAt b_priority b_given b_there b_wanted b_waiting bw bl b_left b_reached b_sizes b_each b_backRow b_backPc b_backNode b_backPosition b_backSize b_output := by
    intro f g L bl bw h16 e hla
    have e2 : L = Lf := by
      rw [← e]
      cases g with
      | zero => rfl
      | succ g => rw [nu_cd, if_neg h16]
    subst e2
    refine br_c (fun _ => hp bl bw hla) (fun z => ?_)
    have ql : q < len := by
      rcases Nat.lt_or_ge q len with v | v
      · exact v
      · exact absurd (nI_le (show y + en ≤ y + q by omega) (by omega)) z
    refine ⟨vp_in_nI (by omega) (by omega), ?_⟩
    rw [nI_clamp (by omega), (hk q ql).1]
    exact br_f (fun v => h16 ((yw_knk W (k := 16) (by omega)).mp v)) (hp bl bw hla)
  intro h
  induction h with
  | zero =>
    intro j f g L bl bw C hf hg e hm h24 hla
    obtain ⟨f, rfl⟩ : ∃ x, f = x + 1 := ⟨f - 1, by omega⟩
    obtain ⟨rfl, h16⟩ := C
    exact stop f g L bl bw h16 e hla
  | succ h ih =>
    intro j f g L bl bw C hf hg e hm h24 hla
    obtain ⟨f, rfl⟩ : ∃ x, f = x + 1 := ⟨f - 1, by omega⟩
    rcases C with ⟨rfl, h16⟩ | ⟨k16, c1, c2, c3, C⟩
    · exact stop f g L bl bw h16 e hla
    · have jl : j < len := by omega
      obtain ⟨o1, o2, o3, o4, o5⟩ := (W.2.2 j jl).2.2.2.2.2.2.2.2.1 k16
      obtain ⟨g, rfl⟩ : ∃ x, g = x + 1 := ⟨g - 1, by omega⟩
      rw [nu_cd, if_pos k16] at e
      refine br_f (nI_ge (by omega) (by omega)) ⟨vp_in_nI (by omega) (by omega), ?_⟩
      rw [nI_clamp (by omega), (hk j jl).1, k16]
      refine br_t (by decide) ⟨gm_e K (j + 1) - j + 1, yw_list130 (b_list := bl) (b_within := bw) W hy hk (by omega) o3 ⟨L.length + 1, ?_⟩ (gm_e K (j + 1) - j) j _ (by omega) (by omega) fun x x1 x2 => ?_⟩
      · refine yw_list162 W hy hk T hov TE jl k16 hm h24 rfl (fun bl' bw' hla' => ih (gm_e K j) f g _ bl' bw' C (by omega) (by omega) e (fun m z => hm m (ls_fm z)) (Nat.le_trans ls_fl h24) hla') L.length 0 _ [] bl bw (by omega) (by omega) la_0 (fun i m _ hh => hla i m hh) (Nat.le_refl _) rfl
      · rcases Nat.eq_or_lt_of_le x1 with z | z
        · rw [← z, k16]; omega
        · have := o5 x z x2; omega
theorem yw_listOf {post : SY → Prop} {K : Nat → Nat} {O : Nat → Int32} {len y en q n c a v : Nat} {tb : Nat → Nat → Int32} (W : gm_W K len) (hy : y + 30 ≤ 210) (hk : ys_k b_kind b_with y K O len) (T : tr_T b_parent n) (hov : ∀ x, x < len → K x = 15 → ∃ v, v < 72 ∧ O x = nI v)
    (TE : ∀ c, c < len → nu_TE K O b_value b_parent b_name len n tb c) (hen : en ≤ len) (hq : q ≤ en) (hc : c < len) (C : gm_cd K len (q - (c + 1)) (c + 1) q) (ho : O c = nI v) (hv : v < 72) (ha : a < n)
    (hp : ∀ bl bw, la bl (nu_L K O b_value b_parent b_name n tb c a) → post (nI n, g_inner, g_rules, g_place, nI (nu_L K O b_value b_parent b_name n tb c a).length, g_depth, g_row, g_pc, g_node, g_position, g_size, g_fault, g_put, g_steps, b_name, b_parent, b_value, b_kind, b_with, b_count, b_bodyAt, b_priority, b_given, b_there, b_wanted, b_waiting, bw, bl, b_left, b_reached, b_sizes, b_each, b_backRow, b_backPc, b_backNode, b_backPosition, b_backSize, b_output)) : wpY_listOf post (nI n, g_inner, g_rules, g_place, g_listed, g_depth, g_row, g_pc, g_node, g_position, g_size, g_fault, g_put, g_steps, b_name, b_parent, b_value, b_kind, b_with, b_count, b_bodyAt, b_priority, b_given, b_there, b_wanted, b_waiting, b_within, b_list, b_left, b_reached, b_sizes, b_each, b_backRow, b_backPc, b_backNode, b_backPosition, b_backSize, b_output) (nI (y + c)) (nI (y + en)) (nI a) := by
  have hl := W.1
  have hn := T.1
  have hw : b_with (y + c) = nI v := by rw [(hk c hc).2]; exact ho
  have e3 : nI v >>> ((3 : Int32) &&& 31) = nI (v / 8) := pk_shrN (by omega) _ 3 (by decide)
  have oo : nu_o O c = v := by show (O c).toNatClampNeg = v; rw [ho]; exact nI_clamp (by omega)
  have main : ∀ x5 : Int32, x5 = (if nu_bk (v / 8) = true then 1 else 0) → ∃ k, wY_listOf_37 post (nI (y + c)) (nI (y + en)) (nI a) x5 (nI n) g_inner g_rules g_place g_depth g_row g_pc g_node g_position g_size g_fault g_put g_steps k 0 0 b_name b_parent b_value b_kind b_with b_count b_bodyAt b_priority b_given b_there b_wanted b_waiting b_within b_list b_left b_reached b_sizes b_each b_backRow b_backPc b_backNode b_backPosition b_backSize b_output := fun x5 h5 => by
    refine ⟨n + 1, yw_list37 h5 T (by omega) hw hv ha (fun bl hla => ⟨q + 1, ?_⟩) n 0 (n + 1) [] b_list (by omega) (by omega) la_0 (Nat.le_refl _) rfl⟩
    rw [nI_1, Nat.add_assoc]
    refine yw_list108 W hy hk T hov TE hen hq hp (q - (c + 1)) (c + 1) (q + 1) 32 _ bl b_within C (by omega) (by omega) ?_ (fun m hm => ?_) ?_ hla
    · unfold nu_L
      rw [oo]
    · rw [List.mem_filter, ls_Tm] at hm
      exact hm.1
    · refine Nat.le_trans (List.length_filter_le _ _) ?_
      unfold ls_T
      split <;> simp <;> exact hn
  refine ⟨vp_in_nI (by omega) (by omega), nm_r (e' := nI (v / 8)) (by rw [nI_clamp (by omega), hw, e3]) ?_⟩
  have q9 : v / 8 < 9 := by omega
  generalize v / 8 = ax at main q9
  rcases (show ax = 0 ∨ ax = 1 ∨ ax = 2 ∨ ax = 3 ∨ ax = 4 ∨ ax = 5 ∨ ax = 6 ∨ ax = 7 ∨ ax = 8 by omega) with rfl | rfl | rfl | rfl | rfl | rfl | rfl | rfl | rfl
  · exact br_t (by decide) (main 0 rfl)
  · exact br_f (by decide) ⟨by decide, br_f (by decide) (main 0 rfl)⟩
  · exact br_f (by decide) ⟨by decide, br_t (by decide) (main 1 rfl)⟩
  · exact br_f (by decide) ⟨by decide, br_f (by decide) (main 0 rfl)⟩
  · exact br_f (by decide) ⟨by decide, br_t (by decide) (main 1 rfl)⟩
  · exact br_f (by decide) ⟨by decide, br_f (by decide) (main 0 rfl)⟩
  · exact br_f (by decide) ⟨by decide, br_t (by decide) (main 1 rfl)⟩
  · exact br_f (by decide) ⟨by decide, br_f (by decide) (main 0 rfl)⟩
  · exact br_f (by decide) ⟨by decide, br_t (by decide) (main 1 rfl)⟩
