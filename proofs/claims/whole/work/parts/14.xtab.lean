/-! the class: a STEP's row, a measure's row -/
variable {f_nodeCount f_innermost f_draftLength f_rulesGiven f_wrongToken f_wantedCount f_inCondition f_depth f_cursor f_outcome f_outputCount f_stepsTaken : Int32} {a_names a_values a_parents a_kinds a_operands a_priorities a_givenAt a_wanted a_axes a_passing a_ends a_openers a_table a_results a_matched a_listLeft a_listNode a_listPosition a_listSize a_listBody a_listReturn a_outputs : Nat → Int32}
theorem xs_Rc {K : Nat → Nat} {O V P N : Nat → Int32} {n : Nat} {tb tb' : Nat → Nat → Int32} {q c a i : Nat} (h : ∀ x a, c + 1 ≤ x → tb x a = tb' x a) (hq : c + 1 ≤ q) : xs_R K O V P N n tb q c a i ↔ xs_R K O V P N n tb' q c a i := by
  have e : nu_L K O V P N n tb c a = nu_L K O V P N n tb' c a := nu_cdc h 32 (c + 1) _ (Nat.le_refl _)
  unfold xs_R
  rw [e]
  have f : ∀ m, tb q m = tb' q m := fun m => h q m hq
  simp only [f]
def xs_ax (a_axes P : Nat → Int32) (nc : Nat) : Prop := ∀ ax a m, ax < 9 → a < nc → m < 32 → bt (a_axes (ax * 24 + a)) m = (decide (m < nc) && tr_on P ax a m)
def xs_ps (a_passing N : Nat → Int32) (nc : Nat) : Prop := ∀ t m, t < 7 → m < 32 → bt (a_passing t) m = (decide (m < nc) && (decide (t = 6) || decide (N m = nI t)))
theorem xs_M {a_axes a_passing P N : Nat → Int32} {nc v a : Nat} (hx : xs_ax a_axes P nc) (hp : xs_ps a_passing N nc) (hv : v < 72) (hv7 : v % 8 < 7) (ha : a < nc) {m : Nat} (hm : m < 32) : bt (a_axes (v / 8 * 24 + a) &&& a_passing (v % 8)) m = (decide (m < nc) && tr_s P N v a m) := by
  rw [b_and, hx (v / 8) a m (by omega) ha hm, hp (v % 8) m hv7 hm, tr_s]
  cases decide (m < nc) <;> cases tr_on P (v / 8) a m <;> simp
theorem xs_Ml {a_axes a_passing P N : Nat → Int32} {nc v a : Nat} (hn : nc ≤ 24) (hx : xs_ax a_axes P nc) (hp : xs_ps a_passing N nc) (hv : v < 72) (hv7 : v % 8 < 7) (ha : a < nc) (back : Bool) : ls_of back (a_axes (v / 8 * 24 + a) &&& a_passing (v % 8)) = (ls_T back nc).filter (tr_s P N v a) := by
  unfold ls_of
  have hS : ∀ m, (decide (m < nc) && tr_s P N v a m) = true → m < nc := fun m h => by
    rw [Bool.and_eq_true, decide_eq_true_eq] at h; exact h.1
  have e1 : (ls_T back 24).filter (bt (a_axes (v / 8 * 24 + a) &&& a_passing (v % 8))) = (ls_T back 24).filter (fun m => decide (m < nc) && tr_s P N v a m) := by
    apply List.filter_congr
    intro m hm
    have := (ls_Tm back 24 m).mp hm
    exact xs_M hx hp hv hv7 ha (by omega)
  rw [e1, ls_TS hn hS back]
  apply List.filter_congr
  intro m hm
  have := (ls_Tm back nc m).mp hm
  rw [decide_eq_true this, Bool.true_and]
theorem xw_138 {post : SX → Prop} {J : Int32 → Int32 → Int32 → Int32 → Int32 → Int32 → Int32 → Int32 → Int32 → Int32 → Int32 → Int32 → Int32 → (Nat → Int32) → (Nat → Int32) → (Nat → Int32) → (Nat → Int32) → (Nat → Int32) → (Nat → Int32) → (Nat → Int32) → (Nat → Int32) → (Nat → Int32) → (Nat → Int32) → (Nat → Int32) → (Nat → Int32) → (Nat → Int32) → (Nat → Int32) → (Nat → Int32) → (Nat → Int32) → (Nat → Int32) → (Nat → Int32) → (Nat → Int32) → (Nat → Int32) → (Nat → Int32) → (Nat → Int32) → Prop} {K : Nat → Nat} {len b c q a nc : Nat} {back : Bool} {x2 x3 x4 M : Int32} {P N : Nat → Int32} (W : gm_W K len) (hb : b + 32 ≤ 224) (hk : xs_k a_kinds b K) (hc : c < len) (hq : q ≤ len) (hn : nc ≤ 24) (ha : a < nc)
    (hM : ls_of back M = nu_L K (fun x => a_operands (b + x)) a_values P N nc (fun x a => a_table ((b + x) * 24 + a)) c a) (hM24 : ∀ i, i < 32 → bt M i = true → i < 24)
    (hJ : ∀ v, (∀ i, i < 32 → (bt v i = true ↔ xs_R K (fun x => a_operands (b + x)) a_values P N nc (fun x a => a_table ((b + x) * 24 + a)) q c a i)) → J (nI (a + 1)) (nI nc) f_innermost f_draftLength f_rulesGiven f_wrongToken f_wantedCount f_inCondition f_depth f_cursor f_outcome f_outputCount f_stepsTaken a_names a_values a_parents a_kinds a_operands a_priorities a_givenAt a_wanted a_axes a_passing a_ends a_openers (upd a_table ((b + c) * 24 + a) v) a_results a_matched a_listLeft a_listNode a_listPosition a_listSize a_listBody a_listReturn a_outputs) :
    wX_tabulateStep_138 post J (nI (b + c)) x2 x3 x4 (nI a) M (nI (b + q)) (nI nc) f_innermost f_draftLength f_rulesGiven f_wrongToken f_wantedCount f_inCondition f_depth f_cursor f_outcome f_outputCount f_stepsTaken a_names a_values a_parents a_kinds a_operands a_priorities a_givenAt a_wanted a_axes a_passing a_ends a_openers a_table a_results a_matched a_listLeft a_listNode a_listPosition a_listSize a_listBody a_listReturn a_outputs := by
  have hl := W.1
  have mem : ∀ m, m ∈ nu_L K (fun x => a_operands (b + x)) a_values P N nc (fun x a => a_table ((b + x) * 24 + a)) c a ↔ m < 24 ∧ bt M m = true := fun m => by rw [← hM]; exact ls_ofm
  have ix := xw_ix (b + c) a
  have l27 : K q < 2 ^ 31 := by
    rcases Nat.lt_or_ge q len with y | y
    · have := (W.2.2 q y).2.2.2.2.2.2.2.2.2.1; omega
    · have := W.2.1 q y; omega
  refine ⟨vp_in_nI (by omega) (by omega), ?_⟩
  rw [nI_clamp (by omega), hk q (by omega), ix]
  by_cases k : K q = 15
  · rw [k]
    refine br_t (by decide) (xw_selectedFrom hn (by omega) fun r hr => ⟨vp_in_nI (by omega) (by omega), nm_r (e' := upd a_table ((b + c) * 24 + a) r) (by rw [nI_clamp (by omega)]) (nm_r (nI_1 a) (hJ r fun i hi => ?_))⟩)
    rw [hr i hi]
    constructor
    · rintro ⟨m, m1, m2, m3⟩
      exact Or.inl ⟨k, m, (mem m).mpr ⟨by omega, m2⟩, m3⟩
    · rintro (⟨_, m, m1, m2⟩ | ⟨z, _⟩)
      · exact ⟨m, nu_Lm m1, ((mem m).mp m1).2, m2⟩
      · exact absurd k z
  · refine br_f (fun z => k ((nI_eq (b := 15) l27 (by omega)).mp z)) ⟨vp_in_nI (by omega) (by omega), nm_r (e' := upd a_table ((b + c) * 24 + a) M) (by rw [nI_clamp (by omega)]) (nm_r (nI_1 a) (hJ M fun i hi => ?_))⟩
    constructor
    · intro z
      exact Or.inr ⟨k, (mem i).mpr ⟨hM24 i hi z, z⟩⟩
    · rintro (⟨z, _⟩ | ⟨_, z⟩)
      · exact absurd z k
      · exact ((mem i).mp z).2
theorem xw_row {post : SX → Prop} {K : Nat → Nat} {len b c q v nc : Nat} {x4 : Int32} (h4 : x4 = if nu_bk (v / 8) = true then 1 else 0) (W : gm_W K len) (hb : b + 32 ≤ 224) (hk : xs_k a_kinds b K) (he : ∀ x, c < x → x < len → a_ends (b + x) = nI (b + gm_e K x)) (hc : c < len) (C : gm_cd K len (q - (c + 1)) (c + 1) q) (hq : q ≤ len) (hn : nc ≤ 24)
    (ho : a_operands (b + c) = nI v) (hv : v < 72) (hv7 : v % 8 < 7) (hx : xs_ax a_axes a_parents nc) (hps : xs_ps a_passing a_names nc)
    (hp : ∀ tab res, (∀ y, (y < (b + c) * 24 ∨ (b + c) * 24 + 24 ≤ y) → tab y = a_table y) → (∀ a, a < nc → ∀ i, i < 32 → (bt (tab ((b + c) * 24 + a)) i = true ↔ xs_R K (fun x => a_operands (b + x)) a_values a_parents a_names nc (fun x a => a_table ((b + x) * 24 + a)) q c a i)) → post (nI nc, f_innermost, f_draftLength, f_rulesGiven, f_wrongToken, f_wantedCount, f_inCondition, f_depth, f_cursor, f_outcome, f_outputCount, f_stepsTaken, a_names, a_values, a_parents, a_kinds, a_operands, a_priorities, a_givenAt, a_wanted, a_axes, a_passing, a_ends, a_openers, tab, res, a_matched, a_listLeft, a_listNode, a_listPosition, a_listSize, a_listBody, a_listReturn, a_outputs)) :
    ∀ d a n tab res, a + d = nc → d < n → (∀ y, (y < (b + c) * 24 ∨ (b + c) * 24 + 24 ≤ y) → tab y = a_table y) → (∀ m, m < a → ∀ i, i < 32 → (bt (tab ((b + c) * 24 + m)) i = true ↔ xs_R K (fun x => a_operands (b + x)) a_values a_parents a_names nc (fun x a => a_table ((b + x) * 24 + a)) q c m i)) →
      wX_tabulateStep_52 post (nI (b + c)) (nI (v / 8)) (nI (v % 8)) x4 n (nI a) (nI nc) f_innermost f_draftLength f_rulesGiven f_wrongToken f_wantedCount f_inCondition f_depth f_cursor f_outcome f_outputCount f_stepsTaken a_names a_values a_parents a_kinds a_operands a_priorities a_givenAt a_wanted a_axes a_passing a_ends a_openers tab res a_matched a_listLeft a_listNode a_listPosition a_listSize a_listBody a_listReturn a_outputs := by
  have hl := W.1
  have hcq := (nu_cd_ge C).1
  intro d
  induction d with
  | zero =>
    intro a n tab res had hdn fr sp
    obtain ⟨n, rfl⟩ : ∃ k, n = k + 1 := ⟨n - 1, by omega⟩
    have e : a = nc := by omega
    subst e
    exact br_t (nI_le (Nat.le_refl _) (by omega)) (hp tab res fr sp)
  | succ d ih =>
    intro a n tab res had hdn fr sp
    obtain ⟨n, rfl⟩ : ∃ k, n = k + 1 := ⟨n - 1, by omega⟩
    have ix := xw_ix (v / 8) a
    have tt : ∀ x y, c + 1 ≤ x → (fun x a => tab ((b + x) * 24 + a)) x y = (fun x a => a_table ((b + x) * 24 + a)) x y := fun x y hx => fr _ (Or.inr (by omega))
    have oo : nu_o (fun x => a_operands (b + x)) c = v := by show (a_operands (b + c)).toNatClampNeg = v; rw [ho]; exact nI_clamp (by omega)
    refine br_f (nI_ge (by omega) (by omega)) ⟨by rw [ix]; exact vp_in_nI (by omega) (by omega), vp_in_nI hv7 (by omega), ?_⟩
    rw [ix, nI_clamp (by omega), nI_clamp (by omega)]
    have hML := xs_Ml hn hx hps hv hv7 (show a < nc by omega) (nu_bk (v / 8))
    refine nm_e (nm_r (e' := nI (b + (c + 1))) (by rw [nI_1, Nat.add_assoc]) ⟨33, ?_⟩)
    refine xw_cond (a_table := tab) h4 W hb hk he hq (Lf := nu_L K (fun x => a_operands (b + x)) a_values a_parents a_names nc (fun x a => tab ((b + x) * 24 + a)) c a) (fun M res' hM hM24 => ?_) (q - (c + 1)) (c + 1) 0 33 32 _ res (by omega) C (by omega) (by omega) (by omega) ?_ ?_
    · refine xw_138 (a_table := tab) W hb hk hc hq hn (by omega) hM hM24 fun val hval => ?_
      refine ih (a + 1) n _ res' (by omega) (by omega) (fun y hy => ?_) (fun m hm i hi => ?_)
      · rw [pk_un (by omega)]; exact fr y hy
      · rcases Nat.lt_or_ge m a with z | z
        · rw [pk_un (by omega)]; exact sp m z i hi
        · have : m = a := by omega
          rw [this, pk_us, hval i hi]
          exact xs_Rc tt hcq
    · rw [hML]
      unfold nu_L
      rw [oo]
    · intro i hi z
      rw [xs_M hx hps hv hv7 (by omega) hi, Bool.and_eq_true, decide_eq_true_eq] at z
      omega
theorem xw_tabulateStep {post : SX → Prop} {K : Nat → Nat} {len b c q v nc : Nat} (W : gm_W K len) (hb : b + 32 ≤ 224) (hk : xs_k a_kinds b K) (he : ∀ x, c < x → x < len → a_ends (b + x) = nI (b + gm_e K x)) (hc : c < len) (C : gm_cd K len (q - (c + 1)) (c + 1) q) (hq : q ≤ len) (hn : nc ≤ 24)
    (ho : a_operands (b + c) = nI v) (hv : v < 72) (hv7 : v % 8 < 7) (hx : xs_ax a_axes a_parents nc) (hps : xs_ps a_passing a_names nc)
    (hp : ∀ tab res, (∀ y, (y < (b + c) * 24 ∨ (b + c) * 24 + 24 ≤ y) → tab y = a_table y) → (∀ a, a < nc → ∀ i, i < 32 → (bt (tab ((b + c) * 24 + a)) i = true ↔ xs_R K (fun x => a_operands (b + x)) a_values a_parents a_names nc (fun x a => a_table ((b + x) * 24 + a)) q c a i)) → post (nI nc, f_innermost, f_draftLength, f_rulesGiven, f_wrongToken, f_wantedCount, f_inCondition, f_depth, f_cursor, f_outcome, f_outputCount, f_stepsTaken, a_names, a_values, a_parents, a_kinds, a_operands, a_priorities, a_givenAt, a_wanted, a_axes, a_passing, a_ends, a_openers, tab, res, a_matched, a_listLeft, a_listNode, a_listPosition, a_listSize, a_listBody, a_listReturn, a_outputs)) :
    wpX_tabulateStep post (nI nc, f_innermost, f_draftLength, f_rulesGiven, f_wrongToken, f_wantedCount, f_inCondition, f_depth, f_cursor, f_outcome, f_outputCount, f_stepsTaken, a_names, a_values, a_parents, a_kinds, a_operands, a_priorities, a_givenAt, a_wanted, a_axes, a_passing, a_ends, a_openers, a_table, a_results, a_matched, a_listLeft, a_listNode, a_listPosition, a_listSize, a_listBody, a_listReturn, a_outputs) (nI (b + c)) := by
  have hl := W.1
  have e8 : (8 : Int32) = nI 8 := rfl
  have row : ∀ x4 : Int32, x4 = (if nu_bk (v / 8) = true then 1 else 0) → ∃ n52 : Nat, wX_tabulateStep_52 post (nI (b + c)) (nI (v / 8)) (nI (v % 8)) x4 n52 0 (nI nc) f_innermost f_draftLength f_rulesGiven f_wrongToken f_wantedCount f_inCondition f_depth f_cursor f_outcome f_outputCount f_stepsTaken a_names a_values a_parents a_kinds a_operands a_priorities a_givenAt a_wanted a_axes a_passing a_ends a_openers a_table a_results a_matched a_listLeft a_listNode a_listPosition a_listSize a_listBody a_listReturn a_outputs := fun x4 h4 =>
    ⟨nc + 1, xw_row h4 W hb hk he hc C hq hn ho hv hv7 hx hps hp nc 0 (nc + 1) a_table a_results (by omega) (by omega) (fun _ _ => rfl) (fun m hm => absurd hm (by omega))⟩
  refine ⟨vp_in_nI (by omega) (by omega), by decide, nm_r (e' := nI (v / 8)) (by rw [nI_clamp (by omega), ho, e8, pk_div (by omega) (by omega) (by omega)]) ⟨vp_in_nI (by omega) (by omega), by decide, nm_r (e' := nI (v % 8)) (by rw [nI_clamp (by omega), ho, e8, pk_rem (by omega) (by omega) (by omega)]) ?_⟩⟩
  have q9 : v / 8 < 9 := by omega
  generalize v / 8 = ax at row q9
  have cs : ax = 0 ∨ ax = 1 ∨ ax = 2 ∨ ax = 3 ∨ ax = 4 ∨ ax = 5 ∨ ax = 6 ∨ ax = 7 ∨ ax = 8 := by omega
  rcases cs with rfl | rfl | rfl | rfl | rfl | rfl | rfl | rfl | rfl
  · exact br_f (by decide) (br_f (by decide) (br_f (by decide) (br_f (by decide) (row 0 rfl))))
  · exact br_f (by decide) (br_f (by decide) (br_f (by decide) (br_f (by decide) (row 0 rfl))))
  · exact br_t (by decide) (row 1 rfl)
  · exact br_f (by decide) (br_f (by decide) (br_f (by decide) (br_f (by decide) (row 0 rfl))))
  · exact br_f (by decide) (br_t (by decide) (row 1 rfl))
  · exact br_f (by decide) (br_f (by decide) (br_f (by decide) (br_f (by decide) (row 0 rfl))))
  · exact br_f (by decide) (br_f (by decide) (br_t (by decide) (row 1 rfl)))
  · exact br_f (by decide) (br_f (by decide) (br_f (by decide) (br_f (by decide) (row 0 rfl))))
  · exact br_f (by decide) (br_f (by decide) (br_f (by decide) (br_t (by decide) (row 1 rfl))))
theorem xw_meas {post : SX → Prop} {b c k nc : Nat} (hb : b + c + 1 < 224) (k4 : 4 ≤ k) (k6 : k ≤ 6) (hn : nc ≤ 24) (hbit : ∀ a, a < nc → ∀ i, i < 32 → bt (a_table ((b + c + 1) * 24 + a)) i = true → i < nc)
    (hp : ∀ tab, (∀ y, (y < (b + c) * 24 ∨ (b + c) * 24 + 24 ≤ y) → tab y = a_table y) → (∀ a, a < nc → tab ((b + c) * 24 + a) = nu_m a_values nc k (a_table ((b + c + 1) * 24 + a))) → post (nI nc, f_innermost, f_draftLength, f_rulesGiven, f_wrongToken, f_wantedCount, f_inCondition, f_depth, f_cursor, f_outcome, f_outputCount, f_stepsTaken, a_names, a_values, a_parents, a_kinds, a_operands, a_priorities, a_givenAt, a_wanted, a_axes, a_passing, a_ends, a_openers, tab, a_results, a_matched, a_listLeft, a_listNode, a_listPosition, a_listSize, a_listBody, a_listReturn, a_outputs)) :
    ∀ d a n tab, a + d = nc → d < n → (∀ y, (y < (b + c) * 24 ∨ (b + c) * 24 + 24 ≤ y) → tab y = a_table y) → (∀ m, m < a → tab ((b + c) * 24 + m) = nu_m a_values nc k (a_table ((b + c + 1) * 24 + m))) →
      wX_tabulateMeasure_9 post (nI (b + c)) (nI k) (nI nc) f_innermost f_draftLength f_rulesGiven f_wrongToken f_wantedCount f_inCondition f_depth f_cursor f_outcome f_outputCount f_stepsTaken n (nI a) a_names a_values a_parents a_kinds a_operands a_priorities a_givenAt a_wanted a_axes a_passing a_ends a_openers tab a_results a_matched a_listLeft a_listNode a_listPosition a_listSize a_listBody a_listReturn a_outputs := by
  intro d
  induction d with
  | zero =>
    intro a n tab had hdn fr sp
    obtain ⟨n, rfl⟩ : ∃ k, n = k + 1 := ⟨n - 1, by omega⟩
    have e : a = nc := by omega
    subst e
    exact br_t (nI_le (Nat.le_refl _) (by omega)) (hp tab fr sp)
  | succ d ih =>
    intro a n tab had hdn fr sp
    obtain ⟨n, rfl⟩ : ∃ k, n = k + 1 := ⟨n - 1, by omega⟩
    have ix := xw_ix (b + c + 1) a
    have ix2 := xw_ix (b + c) a
    have tv : tab ((b + c + 1) * 24 + a) = a_table ((b + c + 1) * 24 + a) := fr _ (Or.inr (by omega))
    have hbt := hbit a (by omega)
    have w85 : ∀ y, y = nu_m a_values nc k (a_table ((b + c + 1) * 24 + a)) → wX_tabulateMeasure_85 post (wX_tabulateMeasure_9 post (nI (b + c)) (nI k) (nI nc) f_innermost f_draftLength f_rulesGiven f_wrongToken f_wantedCount f_inCondition f_depth f_cursor f_outcome f_outputCount f_stepsTaken n) (nI (b + c)) (nI k) (nI a) y (nI nc) f_innermost f_draftLength f_rulesGiven f_wrongToken f_wantedCount f_inCondition f_depth f_cursor f_outcome f_outputCount f_stepsTaken a_names a_values a_parents a_kinds a_operands a_priorities a_givenAt a_wanted a_axes a_passing a_ends a_openers tab a_results a_matched a_listLeft a_listNode a_listPosition a_listSize a_listBody a_listReturn a_outputs := fun y hy => by
      refine ⟨by rw [ix2]; exact vp_in_nI (by omega) (by omega), nm_r (e' := upd tab ((b + c) * 24 + a) y) (by rw [ix2, nI_clamp (by omega)]) (nm_r (nI_1 a) (ih (a + 1) n _ (by omega) (by omega) (fun z hz => ?_) (fun m hm => ?_)))⟩
      · rw [pk_un (by omega)]; exact fr z hz
      · rcases Nat.lt_or_ge m a with z | z
        · rw [pk_un (by omega)]; exact sp m z
        · have : m = a := by omega
          rw [this, pk_us]; exact hy
    refine br_f (nI_ge (by omega) (by omega)) ⟨by rw [nI_1, ix]; exact vp_in_nI (by omega) (by omega), nm_r (e' := a_table ((b + c + 1) * 24 + a)) (by rw [nI_1, ix, nI_clamp (by omega)]; exact tv) ?_⟩
    rcases (show k = 4 ∨ k = 5 ∨ k = 6 by omega) with rfl | rfl | rfl
    · exact br_t (by decide) (xw_nodesIn (w85 _ (by unfold nu_m; rw [if_pos rfl, me_24 hn hbt])))
    · exact br_f (by decide) (br_t (by decide) (xw_sumOf hn (w85 _ (by unfold nu_m; rw [if_neg (by decide), if_pos rfl]))))
    · refine br_f (by decide) (br_f (by decide) (br_c (fun hz => w85 0 ?_) (fun hz => ?_)))
      · unfold nu_m
        rw [if_neg (by decide), if_neg (by decide), me_f0]
        rw [hz]
        exact me_c0 (f := nc) (fun i _ => b_0 i) nc (Nat.le_refl _)
      · obtain ⟨f, hf, low⟩ := me_ex hn hbt hz
        refine xw_firstOf low ⟨vp_in_nI (by omega) (by omega), nm_r (e' := a_values f) (by rw [nI_clamp (by omega)]) (w85 _ ?_)⟩
        unfold nu_m
        rw [if_neg (by decide), if_neg (by decide), (me_fst low nc hf).1]
theorem xw_tabulateMeasure {post : SX → Prop} {b c k nc : Nat} (hb : b + c + 1 < 224) (hk : a_kinds (b + c) = nI k) (k4 : 4 ≤ k) (k6 : k ≤ 6) (hn : nc ≤ 24) (hbit : ∀ a, a < nc → ∀ i, i < 32 → bt (a_table ((b + c + 1) * 24 + a)) i = true → i < nc)
    (hp : ∀ tab, (∀ y, (y < (b + c) * 24 ∨ (b + c) * 24 + 24 ≤ y) → tab y = a_table y) → (∀ a, a < nc → tab ((b + c) * 24 + a) = nu_m a_values nc k (a_table ((b + c + 1) * 24 + a))) → post (nI nc, f_innermost, f_draftLength, f_rulesGiven, f_wrongToken, f_wantedCount, f_inCondition, f_depth, f_cursor, f_outcome, f_outputCount, f_stepsTaken, a_names, a_values, a_parents, a_kinds, a_operands, a_priorities, a_givenAt, a_wanted, a_axes, a_passing, a_ends, a_openers, tab, a_results, a_matched, a_listLeft, a_listNode, a_listPosition, a_listSize, a_listBody, a_listReturn, a_outputs)) :
    wpX_tabulateMeasure post (nI nc, f_innermost, f_draftLength, f_rulesGiven, f_wrongToken, f_wantedCount, f_inCondition, f_depth, f_cursor, f_outcome, f_outputCount, f_stepsTaken, a_names, a_values, a_parents, a_kinds, a_operands, a_priorities, a_givenAt, a_wanted, a_axes, a_passing, a_ends, a_openers, a_table, a_results, a_matched, a_listLeft, a_listNode, a_listPosition, a_listSize, a_listBody, a_listReturn, a_outputs) (nI (b + c)) :=
  ⟨vp_in_nI (by omega) (by omega), nm_r (e' := nI k) (by rw [nI_clamp (by omega)]; exact hk) ⟨nc + 1, xw_meas hb k4 k6 hn hbit hp nc 0 (nc + 1) a_table (by omega) (by omega) (fun _ _ => rfl) (fun m hm => absurd hm (by omega))⟩⟩
