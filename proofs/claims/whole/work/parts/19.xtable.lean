/-! the class: the whole table -/
variable {f_nodeCount f_innermost f_draftLength f_rulesGiven f_wrongToken f_wantedCount f_inCondition f_depth f_cursor f_outcome f_outputCount f_stepsTaken : Int32} {a_names a_values a_parents a_kinds a_operands a_priorities a_givenAt a_wanted a_axes a_passing a_ends a_openers a_table a_results a_matched a_listLeft a_listNode a_listPosition a_listSize a_listBody a_listReturn a_outputs : Nat → Int32}
/-- each slot's tokens; the draft's is the seventh -/
def xt_S (a_kinds a_operands : Nat → Int32) (K : Nat → Nat → Nat) (len : Nat → Nat) (r : Nat) : Prop :=
  gm_W (K r) (len r) ∧ xs_k a_kinds (32 * r) (K r) ∧ ∀ c, c < len r → K r c = 15 → ∃ v, v < 72 ∧ v % 8 < 7 ∧ a_operands (32 * r + c) = nI v
/-- what is known of a cell that is tabulated -/
def xt_C (a_operands V P N : Nat → Int32) (K : Nat → Nat → Nat) (len : Nat → Nat) (n : Nat) (E B T : Nat → Int32) (r c : Nat) : Prop :=
  E (32 * r + c) = nI (32 * r + gm_e (K r) c) ∧
  (c < len r → nu_TE (K r) (fun x => a_operands (32 * r + x)) V P N (len r) n (fun x a => T ((32 * r + x) * 24 + a)) c) ∧
  (c < len r → (K r c = 21 ∨ K r c = 24 ∨ K r c = 25) → B (32 * r + gm_e (K r) c - 1) = nI (32 * r + c))
def xt_D (a_operands V P N : Nat → Int32) (K : Nat → Nat → Nat) (len : Nat → Nat) (n : Nat) (E B T : Nat → Int32) (y z : Nat) : Prop :=
  ∀ r c, c < 32 → y ≤ 32 * r + c → 32 * r + c < z → xt_C a_operands V P N K len n E B T r c
theorem gm_opu {K : Nat → Nat} {len c c' : Nat} (W : gm_W K len) (hc : c < len) (hc' : c' < len) (h : K c = 21 ∨ K c = 24 ∨ K c = 25) (h' : K c' = 21 ∨ K c' = 24 ∨ K c' = 25) (e : gm_e K c = gm_e K c') (lt : c < c') : False := by
  have op : ∀ c, c < len → (K c = 21 ∨ K c = 24 ∨ K c = 25) → gm_od K (gm_e K c) = gm_od K c ∧ ∀ x, c < x → x < gm_e K c → gm_od K c + 1 ≤ gm_od K x := by
    intro c hc h
    have L := W.2.2 c hc
    rcases h with h | h | h
    · obtain ⟨_, _, _, _, _, p⟩ := L.2.2.2.2.2.2.2.2.2.2.2.2.1 h
      exact p
    · obtain ⟨_, _, _, _, _, _, _, p⟩ := L.2.2.2.2.2.2.2.2.2.2.2.2.2.2.2.1 h
      exact p
    · obtain ⟨_, _, _, _, _, _, _, p⟩ := L.2.2.2.2.2.2.2.2.2.2.2.2.2.2.2.2.1 h
      exact p
  obtain ⟨a1, a2⟩ := op c hc h
  obtain ⟨b1, b2⟩ := op c' hc' h'
  have := (W.2.2 c' hc').1
  have := a2 c' lt (by omega)
  rw [e] at a1
  omega
theorem xt_keep {a_operands V P N : Nat → Int32} {K : Nat → Nat → Nat} {len : Nat → Nat} {n : Nat} {E B T E' B' T' : Nat → Int32} {r c y : Nat} (h : xt_C a_operands V P N K len n E B T r c) (hy : y < 32 * r + c) (hE : ∀ x, x ≠ y → E' x = E x) (hT : ∀ x, (x < y * 24 ∨ y * 24 + 24 ≤ x) → T' x = T x)
    (hB : c < len r → (K r c = 21 ∨ K r c = 24 ∨ K r c = 25) → B' (32 * r + gm_e (K r) c - 1) = B (32 * r + gm_e (K r) c - 1)) : xt_C a_operands V P N K len n E' B' T' r c := by
  obtain ⟨h1, h2, h3⟩ := h
  refine ⟨by rw [hE _ (by omega)]; exact h1, fun hc => nu_TEc (fun x a hx => (hT _ (Or.inr ?_)).symm) (h2 hc), fun hc ho => by rw [hB hc ho]; exact h3 hc ho⟩
  have : (y + 1) * 24 ≤ (32 * r + x) * 24 := Nat.mul_le_mul_right 24 (by omega)
  omega
theorem xw_tab_l {post : SX → Prop} {K : Nat → Nat → Nat} {len : Nat → Nat} {nc lo hi : Nat} (hl : lo ≤ hi) (h224 : hi ≤ 224) (hlo : lo % 32 = 0) (hhi : hi % 32 = 0) (hn : nc ≤ 24) (hS : ∀ r, lo ≤ 32 * r → 32 * r < hi → xt_S a_kinds a_operands K len r) (hx : xs_ax a_axes a_parents nc) (hps : xs_ps a_passing a_names nc)
    (hp : ∀ E B T R : Nat → Int32, xt_D a_operands a_values a_parents a_names K len nc E B T lo hi → post (nI nc, f_innermost, f_draftLength, f_rulesGiven, f_wrongToken, f_wantedCount, f_inCondition, f_depth, f_cursor, f_outcome, f_outputCount, f_stepsTaken, a_names, a_values, a_parents, a_kinds, a_operands, a_priorities, a_givenAt, a_wanted, a_axes, a_passing, E, B, T, R, a_matched, a_listLeft, a_listNode, a_listPosition, a_listSize, a_listBody, a_listReturn, a_outputs)) :
    ∀ d f E B T R, lo + d ≤ hi → d < f → xt_D a_operands a_values a_parents a_names K len nc E B T (lo + d) hi → wX_tabulate_8 post (nI lo) f (nI (lo + d) - 1) (nI nc) f_innermost f_draftLength f_rulesGiven f_wrongToken f_wantedCount f_inCondition f_depth f_cursor f_outcome f_outputCount f_stepsTaken a_names a_values a_parents a_kinds a_operands a_priorities a_givenAt a_wanted a_axes a_passing E B T R a_matched a_listLeft a_listNode a_listPosition a_listSize a_listBody a_listReturn a_outputs := by
  intro d
  induction d with
  | zero =>
    intro f E B T R _ hf h
    obtain ⟨f, rfl⟩ : ∃ x, f = x + 1 := ⟨f - 1, by omega⟩
    exact br_t (xw_m1lt (by omega)) (hp E B T R h)
  | succ d ih =>
    intro f E B T R hd hf h
    obtain ⟨f, rfl⟩ : ∃ x, f = x + 1 := ⟨f - 1, by omega⟩
    obtain ⟨r, c, hc, hy⟩ : ∃ r c, c < 32 ∧ lo + d = 32 * r + c := ⟨(lo + d) / 32, (lo + d) % 32, Nat.mod_lt _ (by omega), by omega⟩
    have hr0 : lo ≤ 32 * r := by omega
    have hr1 : 32 * r < hi := by omega
    have hb : 32 * r + 32 ≤ 224 := by omega
    have hr2 : 32 * r + 32 ≤ hi := by omega
    obtain ⟨W, hk, hop⟩ := hS r hr0 hr1
    have e0 : nI (lo + (d + 1)) - 1 = nI (32 * r + c) := by rw [show lo + (d + 1) = (32 * r + c) + 1 by omega, nI_pred]
    rw [e0]
    have he : ∀ x, c < x → x < 32 → E (32 * r + x) = nI (32 * r + gm_e (K r) x) := fun x x1 x2 => (h r x x2 (by omega) (by omega)).1
    have hkk := hk c hc
    have k27 := gm_k26 W c
    have hWl := W.1
    have go : ∀ E' B' T' R', xt_D a_operands a_values a_parents a_names K len nc E' B' T' (lo + d) hi → ∀ x3, x3 = nI (32 * r + c) + (-1) → wX_tabulate_8 post (nI lo) f x3 (nI nc) f_innermost f_draftLength f_rulesGiven f_wrongToken f_wantedCount f_inCondition f_depth f_cursor f_outcome f_outputCount f_stepsTaken a_names a_values a_parents a_kinds a_operands a_priorities a_givenAt a_wanted a_axes a_passing E' B' T' R' a_matched a_listLeft a_listNode a_listPosition a_listSize a_listBody a_listReturn a_outputs := fun E' B' T' R' hD => nm_r (e' := nI (lo + d) - 1) (by rw [xw_m1, hy]) (ih f E' B' T' R' (by omega) (by omega) hD)
    have mk : ∀ B' T', (∀ x, (x < (32 * r + c) * 24 ∨ (32 * r + c) * 24 + 24 ≤ x) → T' x = T x) → (∀ r' c', c' < 32 → 32 * r + c < 32 * r' + c' → 32 * r' + c' < hi → c' < len r' → (K r' c' = 21 ∨ K r' c' = 24 ∨ K r' c' = 25) → B' (32 * r' + gm_e (K r') c' - 1) = B (32 * r' + gm_e (K r') c' - 1)) →
        (c < len r → nu_TE (K r) (fun x => a_operands (32 * r + x)) a_values a_parents a_names (len r) nc (fun x a => T' ((32 * r + x) * 24 + a)) c) → (c < len r → (K r c = 21 ∨ K r c = 24 ∨ K r c = 25) → B' (32 * r + gm_e (K r) c - 1) = nI (32 * r + c)) →
        xt_D a_operands a_values a_parents a_names K len nc (upd E (32 * r + c) (nI (32 * r + gm_e (K r) c))) B' T' (lo + d) hi := by
      intro B' T' hT hB hTE hop r' c' hc' h1 h2
      by_cases z : 32 * r' + c' = 32 * r + c
      · have er : r' = r := by omega
        have ec : c' = c := by omega
        subst er ec
        exact ⟨pk_us, hTE, hop⟩
      · exact xt_keep (h r' c' hc' (by omega) h2) (y := 32 * r + c) (by omega) (fun x hx => pk_un hx) hT (fun h3 h4 => hB r' c' hc' (by omega) h2 h3 h4)
    refine br_f (nI_nlt (by omega) (by omega)) ⟨vp_in_nI (by omega) (by omega), nm_r (e' := nI (K r c)) (by rw [nI_clamp (by omega)]; exact hkk) ?_⟩
    refine xw_endOf (a_ends := E) W hb hk hc he ⟨vp_in_nI (by omega) (by omega), nm_r (e' := upd E (32 * r + c) (nI (32 * r + gm_e (K r) c))) (by rw [nI_clamp (by omega)]) ?_⟩
    have tail : K r c ≠ 15 → ¬ (4 ≤ K r c ∧ K r c ≤ 6) → wX_tabulate_68 post (wX_tabulate_8 post (nI lo) f) (nI lo) (nI (32 * r + c)) (nI (K r c)) (nI nc) f_innermost f_draftLength f_rulesGiven f_wrongToken f_wantedCount f_inCondition f_depth f_cursor f_outcome f_outputCount f_stepsTaken a_names a_values a_parents a_kinds a_operands a_priorities a_givenAt a_wanted a_axes a_passing (upd E (32 * r + c) (nI (32 * r + gm_e (K r) c))) B T R a_matched a_listLeft a_listNode a_listPosition a_listSize a_listBody a_listReturn a_outputs := by
      intro n15 n46
      have te : c < len r → nu_TE (K r) (fun x => a_operands (32 * r + x)) a_values a_parents a_names (len r) nc (fun x a => T ((32 * r + x) * 24 + a)) c := fun _ a _ => ⟨fun z => absurd z n15, fun z => absurd z n46⟩
      have o89 : (K r c = 21 ∨ K r c = 24 ∨ K r c = 25) → wX_tabulate_89 post (wX_tabulate_8 post (nI lo) f) (nI lo) (nI (32 * r + c)) (nI nc) f_innermost f_draftLength f_rulesGiven f_wrongToken f_wantedCount f_inCondition f_depth f_cursor f_outcome f_outputCount f_stepsTaken a_names a_values a_parents a_kinds a_operands a_priorities a_givenAt a_wanted a_axes a_passing (upd E (32 * r + c) (nI (32 * r + gm_e (K r) c))) B T R a_matched a_listLeft a_listNode a_listPosition a_listSize a_listBody a_listReturn a_outputs := by
        intro ho
        have hcl : c < len r := by
          rcases Nat.lt_or_ge c (len r) with y | y
          · exact y
          · have := W.2.1 c y; omega
        have l1 := (W.2.2 c hcl).1
        have l2 := (W.2.2 c hcl).2.1
        have ei : (upd E (32 * r + c) (nI (32 * r + gm_e (K r) c))) (nI (32 * r + c)).toNatClampNeg - 1 = nI (32 * r + gm_e (K r) c - 1) := by
          rw [nI_clamp (by omega), pk_us]
          obtain ⟨w, hw⟩ : ∃ w, 32 * r + gm_e (K r) c = w + 1 := ⟨32 * r + gm_e (K r) c - 1, by omega⟩
          rw [hw, nI_pred]; rfl
        refine ⟨vp_in_nI (by omega) (by omega), by rw [ei]; exact vp_in_nI (by omega) (by omega), nm_r (e' := upd B (32 * r + gm_e (K r) c - 1) (nI (32 * r + c))) (by rw [ei, nI_clamp (by omega)]) (go _ _ _ _ (mk _ _ (fun _ _ => rfl) (fun r' c' hc' h1 h2 h3 h4 => pk_un (fun z => ?_)) te (fun _ _ => pk_us)))⟩
        have W' := (hS r' (by omega) (by omega)).1
        have m1 := (W'.2.2 c' h3).1
        have m2 := (W'.2.2 c' h3).2.1
        have hl' := W'.1
        have er : r' = r := by omega
        subst er
        exact gm_opu W hcl h3 ho h4 (by omega) (by omega)
      have k3 : ∀ k, k < 2 ^ 31 → K r c ≠ k → ¬ nI (K r c) = nI k := fun k hk' z => xw_kne W hk' z
      by_cases h21 : K r c = 21
      · exact br_t (by rw [h21]; rfl) (o89 (Or.inl h21))
      · refine br_f (k3 21 (by omega) h21) ?_
        by_cases h24 : K r c = 24
        · exact br_t (by rw [h24]; rfl) (o89 (Or.inr (Or.inl h24)))
        · refine br_f (k3 24 (by omega) h24) ?_
          by_cases h25 : K r c = 25
          · exact br_t (by rw [h25]; rfl) (o89 (Or.inr (Or.inr h25)))
          · exact br_f (k3 25 (by omega) h25) (go _ _ _ _ (mk _ _ (fun _ _ => rfl) (fun _ _ _ _ _ _ _ => rfl) te (fun _ z => absurd z (by omega))))
    by_cases h15 : K r c = 15
    · have hcl : c < len r := by
        rcases Nat.lt_or_ge c (len r) with y | y
        · exact y
        · have := W.2.1 c y; omega
      obtain ⟨v, hv, hv7, ho⟩ := hop c hcl h15
      obtain ⟨q, C, q1, q2, q3, q4, q5, q6, q7⟩ := (W.2.2 c hcl).2.2.2.2.2.2.2.1 h15
      have b1 := (W.2.2 c hcl).2.1
      refine br_t (by rw [h15]; rfl) (xw_tabulateStep (b := 32 * r) (a_table := T) W hb hk (fun x x1 x2 => by rw [pk_un (by omega)]; exact he x x1 (by omega)) hcl C (by omega) hn ho hv hv7 hx hps fun tab res fr sp => go _ _ _ _ (mk _ _ fr (fun _ _ _ _ _ _ _ => rfl) (fun _ a ha => ⟨fun _ q' C' i hi => ?_, fun z => absurd z (by omega)⟩) (fun _ z => absurd z (by omega))))
      have eq := nu_cd_u C' C
      subst eq
      have tt : ∀ x y, c + 1 ≤ x → (fun x a => T ((32 * r + x) * 24 + a)) x y = (fun x a => tab ((32 * r + x) * 24 + a)) x y := fun x y hx => (fr _ (Or.inr (by
        have : (32 * r + c + 1) * 24 ≤ (32 * r + x) * 24 := Nat.mul_le_mul_right 24 (by omega)
        omega))).symm
      exact (sp a ha i hi).trans (xs_Rc tt q1)
    · refine br_f (xw_kne W (k := 15) (by omega) h15) ?_
      by_cases h4 : K r c < 4
      · exact br_t (nI_lt (b := 4) h4 (by omega)) (tail h15 (by omega))
      · refine br_f (nI_nlt (b := 4) (by omega) (by omega)) ?_
        by_cases h6 : 6 < K r c
        · exact br_t (nI_lt (a := 6) h6 (by omega)) (tail h15 (by omega))
        · have hcl : c < len r := by
            rcases Nat.lt_or_ge c (len r) with y | y
            · exact y
            · have := W.2.1 c y; omega
          obtain ⟨p1, p2, p3⟩ := (W.2.2 c hcl).2.2.2.2.1 (by omega)
          have b1 := (W.2.2 c hcl).2.1
          have TE : ∀ x, c < x → x < len r → nu_TE (K r) (fun x => a_operands (32 * r + x)) a_values a_parents a_names (len r) nc (fun x a => T ((32 * r + x) * 24 + a)) x := fun x x1 x2 => (h r x (by omega) (by omega) (by omega)).2.1 x2
          refine br_f (nI_nlt (a := 6) (by omega) (by omega)) (xw_tabulateMeasure (a_table := T) (by omega) hkk (by omega) (by omega) hn (fun a ha i hi z => ?_) fun tab fr sp => go _ _ _ _ (mk _ _ fr (fun _ _ _ _ _ _ _ => rfl) (fun _ a ha => ⟨fun z => absurd z h15, fun _ => ?_⟩) (fun _ z => absurd z (by omega))))
          · exact nu_TEn' W (c + 1) TE (len r - (c + 1)) (c + 1) (Nat.le_refl _) (by omega) p1 a ha i hi z
          · show tab ((32 * r + c) * 24 + a) = nu_m a_values nc (K r c) (tab ((32 * r + (c + 1)) * 24 + a))
            rw [sp a ha, fr _ (Or.inr (by omega))]
            rfl
theorem xw_tabulate {post : SX → Prop} {K : Nat → Nat → Nat} {len : Nat → Nat} {nc lo hi : Nat} (hl : lo ≤ hi) (h224 : hi ≤ 224) (hlo : lo % 32 = 0) (hhi : hi % 32 = 0) (T : tr_T a_parents nc) (hN : ∀ i, i < nc → ∃ t, t < 6 ∧ a_names i = nI t) (hS : ∀ r, lo ≤ 32 * r → 32 * r < hi → xt_S a_kinds a_operands K len r)
    (hp : ∀ A Q E B T R : Nat → Int32, xs_ax A a_parents nc → xt_D a_operands a_values a_parents a_names K len nc E B T lo hi → post (nI nc, f_innermost, f_draftLength, f_rulesGiven, f_wrongToken, f_wantedCount, f_inCondition, f_depth, f_cursor, f_outcome, f_outputCount, f_stepsTaken, a_names, a_values, a_parents, a_kinds, a_operands, a_priorities, a_givenAt, a_wanted, A, Q, E, B, T, R, a_matched, a_listLeft, a_listNode, a_listPosition, a_listSize, a_listBody, a_listReturn, a_outputs)) :
    wpX_tabulate post (nI nc, f_innermost, f_draftLength, f_rulesGiven, f_wrongToken, f_wantedCount, f_inCondition, f_depth, f_cursor, f_outcome, f_outputCount, f_stepsTaken, a_names, a_values, a_parents, a_kinds, a_operands, a_priorities, a_givenAt, a_wanted, a_axes, a_passing, a_ends, a_openers, a_table, a_results, a_matched, a_listLeft, a_listNode, a_listPosition, a_listSize, a_listBody, a_listReturn, a_outputs) (nI lo) (nI hi) :=
  xw_relateNodes T hN fun A Q hA hQ => nm_r (e' := nI (lo + (hi - lo)) - 1) (by rw [show lo + (hi - lo) = hi by omega]) ⟨hi - lo + 1, xw_tab_l hl h224 hlo hhi T.1 hS hA hQ (fun E B T R h => hp A Q E B T R hA h) (hi - lo) _ a_ends a_openers a_table a_results (by omega) (by omega) (fun r c _ h1 h2 => absurd h2 (by omega))⟩
