/-! the class: where a phrase ends; the whole table -/
variable {f_nodeCount f_innermost f_draftLength f_rulesGiven f_wrongToken f_wantedCount f_inCondition f_depth f_cursor f_outcome f_outputCount f_stepsTaken : Int32} {a_names a_values a_parents a_kinds a_operands a_priorities a_givenAt a_wanted a_axes a_passing a_ends a_openers a_table a_results a_matched a_listLeft a_listNode a_listPosition a_listSize a_listBody a_listReturn a_outputs : Nat → Int32}
theorem gm_k26 {K : Nat → Nat} {len : Nat} (W : gm_W K len) (c : Nat) : K c ≤ 27 := by
  rcases Nat.lt_or_ge c len with y | y
  · have := (W.2.2 c y).2.2.2.2.2.2.2.2.2.1; omega
  · have := W.2.1 c y; omega
theorem xw_kne {K : Nat → Nat} {len c k : Nat} (W : gm_W K len) (hk : k < 2 ^ 31) (h : K c ≠ k) : ¬ nI (K c) = nI k := fun z => h ((nI_eq (by have := gm_k26 W c; omega) hk).mp z)
theorem xw_behindC {post : Int32 → Prop} {K : Nat → Nat} {len b c q : Nat} (W : gm_W K len) (hb : b + 32 ≤ 224) (hk : xs_k a_kinds b K) (he : ∀ x, c < x → x < 32 → a_ends (b + x) = nI (b + gm_e K x)) (hq : q ≤ len) (hp : post (nI (b + q))) :
    ∀ f j t n, c < j → gm_cd K len f j q → t + (q - j) ≤ 31 → q - j < n → wX_behindConditions_6 post f_nodeCount f_innermost f_draftLength f_rulesGiven f_wrongToken f_wantedCount f_inCondition f_depth f_cursor f_outcome f_outputCount f_stepsTaken a_names a_values a_parents a_kinds a_operands a_priorities a_givenAt a_wanted a_axes a_passing a_ends a_openers a_table a_results a_matched a_listLeft a_listNode a_listPosition a_listSize a_listBody a_listReturn a_outputs n (nI (b + j)) (nI t) := by
  have hl := W.1
  have stop : ∀ j t n, j = q → K j ≠ 16 → t ≤ 31 → wX_behindConditions_6 post f_nodeCount f_innermost f_draftLength f_rulesGiven f_wrongToken f_wantedCount f_inCondition f_depth f_cursor f_outcome f_outputCount f_stepsTaken a_names a_values a_parents a_kinds a_operands a_priorities a_givenAt a_wanted a_axes a_passing a_ends a_openers a_table a_results a_matched a_listLeft a_listNode a_listPosition a_listSize a_listBody a_listReturn a_outputs (n + 1) (nI (b + j)) (nI t) := by
    intro j t n e h16 ht
    subst e
    refine br_f (nI_ge (b := 32) (by omega) (by decide)) ⟨vp_in_nI (by omega) (by omega), ?_⟩
    rw [nI_clamp (by omega), hk j (by omega)]
    exact br_f (xw_kne W (k := 16) (by omega) h16) hp
  intro f
  induction f with
  | zero =>
    intro j t n hj C ht hn
    obtain ⟨n, rfl⟩ : ∃ k, n = k + 1 := ⟨n - 1, by omega⟩
    exact stop j t n C.1 C.2 (by omega)
  | succ f ih =>
    intro j t n hj C ht hn
    obtain ⟨n, rfl⟩ : ∃ k, n = k + 1 := ⟨n - 1, by omega⟩
    rcases C with C | ⟨k16, e1, e2, e3, C⟩
    · exact stop j t n C.1 C.2 (by omega)
    · refine br_f (nI_ge (b := 32) (by omega) (by decide)) ⟨vp_in_nI (by omega) (by omega), ?_⟩
      rw [nI_clamp (by omega), hk j (by omega), k16]
      exact br_t (by decide) ⟨vp_in_nI (by omega) (by omega), nm_r (e' := nI (b + gm_e K j)) (he j hj (by omega)) (nm_r (nI_1 t) (ih (gm_e K j) (t + 1) n (by omega) C (by omega) (by omega)))⟩
theorem xw_behindB {post : Int32 → Prop} {K : Nat → Nat} {len b c q : Nat} (W : gm_W K len) (hb : b + 32 ≤ 224) (hk : xs_k a_kinds b K) (he : ∀ x, c < x → x < 32 → a_ends (b + x) = nI (b + gm_e K x)) (hq : q ≤ len) (hp : post (nI (b + q))) :
    ∀ f j t n, c < j → gm_ch K f j q → j < q → t + (q - j) ≤ 31 → q - j < n → wX_behindBody_4 post f_nodeCount f_innermost f_draftLength f_rulesGiven f_wrongToken f_wantedCount f_inCondition f_depth f_cursor f_outcome f_outputCount f_stepsTaken a_names a_values a_parents a_kinds a_operands a_priorities a_givenAt a_wanted a_axes a_passing a_ends a_openers a_table a_results a_matched a_listLeft a_listNode a_listPosition a_listSize a_listBody a_listReturn a_outputs n (nI (b + j)) (nI t) := by
  have hl := W.1
  intro f
  induction f with
  | zero => intro j t n _ C; exact absurd C id
  | succ f ih =>
    intro j t n hj C hjq ht hn
    obtain ⟨n, rfl⟩ : ∃ k, n = k + 1 := ⟨n - 1, by omega⟩
    refine br_f (nI_ge (b := 32) (by omega) (by decide)) ⟨vp_in_nI (by omega) (by omega), ?_⟩
    rw [nI_clamp (by omega), hk j (by omega)]
    rcases C with ⟨k26, e⟩ | ⟨k1, k2, e1, e2, C⟩
    · rw [k26]
      refine br_t (by decide) ?_
      rw [nI_1, show b + j + 1 = b + q by omega]
      exact hp
    · exact br_f (xw_kne W (k := 26) (by omega) (by omega)) ⟨vp_in_nI (by omega) (by omega), nm_r (e' := nI (b + gm_e K j)) (he j hj (by omega)) (nm_r (nI_1 t) (ih (gm_e K j) (t + 1) n (by omega) C e2 (by omega) (by omega)))⟩
theorem xw_endOf {post : Int32 → Prop} {K : Nat → Nat} {len b c : Nat} (W : gm_W K len) (hb : b + 32 ≤ 224) (hk : xs_k a_kinds b K) (hc : c < 32) (he : ∀ x, c < x → x < 32 → a_ends (b + x) = nI (b + gm_e K x)) (hp : post (nI (b + gm_e K c))) : wpX_endOf post (f_nodeCount, f_innermost, f_draftLength, f_rulesGiven, f_wrongToken, f_wantedCount, f_inCondition, f_depth, f_cursor, f_outcome, f_outputCount, f_stepsTaken, a_names, a_values, a_parents, a_kinds, a_operands, a_priorities, a_givenAt, a_wanted, a_axes, a_passing, a_ends, a_openers, a_table, a_results, a_matched, a_listLeft, a_listNode, a_listPosition, a_listSize, a_listBody, a_listReturn, a_outputs) (nI (b + c)) := by
  have hl := W.1
  have hkk := hk c hc
  have leaf : (K c ≤ 3 ∨ K c = 17 ∨ K c = 20 ∨ 26 ≤ K c) → post (nI (b + c) + 1) := fun h => by
    have e := gm_E0e (gm_E0_leaf h) (by omega)
    rw [e] at hp
    rw [nI_1, Nat.add_assoc]; exact hp
  rcases Nat.lt_or_ge c len with hcl | hcl
  · have L := W.2.2 c hcl
    have e1 : ∀ x, x = c + 1 → x < 32 → vp_in (nI (b + c) + 1) 224 ∧ a_ends (nI (b + c) + 1).toNatClampNeg = nI (b + gm_e K (c + 1)) := fun x hx h32 => by
      rw [nI_1, Nat.add_assoc, nI_clamp (by omega)]
      exact ⟨vp_in_nI (by omega) (by omega), he (c + 1) (by omega) (by omega)⟩
    have i1 : vp_in (nI (b + c) + 1) 224 := (e1 (c + 1) rfl (by omega)).1
    have e1' : a_ends (nI (b + c) + 1).toNatClampNeg = nI (b + gm_e K (c + 1)) := (e1 (c + 1) rfl (by omega)).2
    have one : gm_e K c = gm_e K (c + 1) → vp_in (nI (b + c) + 1) 224 ∧ post (a_ends (nI (b + c) + 1).toNatClampNeg) := fun h => by
      refine ⟨i1, ?_⟩
      rw [e1', ← h]; exact hp
    have two : K c = 7 ∨ K c = 8 ∨ K c = 9 ∨ K c = 10 ∨ K c = 11 ∨ K c = 12 ∨ K c = 13 → wX_endOf_117 post (nI (b + c)) f_nodeCount f_innermost f_draftLength f_rulesGiven f_wrongToken f_wantedCount f_inCondition f_depth f_cursor f_outcome f_outputCount f_stepsTaken a_names a_values a_parents a_kinds a_operands a_priorities a_givenAt a_wanted a_axes a_passing a_ends a_openers a_table a_results a_matched a_listLeft a_listNode a_listPosition a_listSize a_listBody a_listReturn a_outputs := fun h => by
      obtain ⟨a1, a2, a3, a4, a5⟩ := L.2.2.2.2.2.1 (by omega)
      have b1 := L.2.1
      refine ⟨i1, ?_⟩
      rw [e1', nI_clamp (by omega), he (gm_e K (c + 1)) (by omega) (by omega), ← a5]
      exact ⟨vp_in_nI (by omega) (by omega), hp⟩
    refine ⟨vp_in_nI (by omega) (by omega), nm_r (e' := nI (K c)) (by rw [nI_clamp (by omega)]; exact hkk) ?_⟩
    match hK : K c with
    | 0 => exact br_t (by decide) (leaf (by omega))
    | 1 => exact br_t (by decide) (leaf (by omega))
    | 2 => exact br_t (by decide) (leaf (by omega))
    | 3 => exact br_t (by decide) (leaf (by omega))
    | 4 => exact br_f (by decide) (br_f (by decide) (br_t (by decide) (one (L.2.2.2.2.1 (by omega)).2.1)))
    | 5 => exact br_f (by decide) (br_f (by decide) (br_f (by decide) (br_t (by decide) (one (L.2.2.2.2.1 (by omega)).2.1))))
    | 6 => exact br_f (by decide) (br_f (by decide) (br_f (by decide) (br_f (by decide) (br_t (by decide) (one (L.2.2.2.2.1 (by omega)).2.1)))))
    | 7 => exact br_f (by decide) (br_f (by decide) (br_f (by decide) (br_f (by decide) (br_f (by decide) (br_t (by decide) (two (by omega)))))))
    | 8 => exact br_f (by decide) (br_f (by decide) (br_f (by decide) (br_f (by decide) (br_f (by decide) (br_f (by decide) (br_t (by decide) (two (by omega))))))))
    | 9 => exact br_f (by decide) (br_f (by decide) (br_f (by decide) (br_f (by decide) (br_f (by decide) (br_f (by decide) (br_f (by decide) (br_t (by decide) (two (by omega)))))))))
    | 10 => exact br_f (by decide) (br_f (by decide) (br_f (by decide) (br_f (by decide) (br_f (by decide) (br_f (by decide) (br_f (by decide) (br_f (by decide) (br_t (by decide) (two (by omega))))))))))
    | 11 => exact br_f (by decide) (br_f (by decide) (br_f (by decide) (br_f (by decide) (br_f (by decide) (br_f (by decide) (br_f (by decide) (br_f (by decide) (br_f (by decide) (br_t (by decide) (two (by omega)))))))))))
    | 12 => exact br_f (by decide) (br_f (by decide) (br_f (by decide) (br_f (by decide) (br_f (by decide) (br_f (by decide) (br_f (by decide) (br_f (by decide) (br_f (by decide) (br_f (by decide) (br_t (by decide) (two (by omega))))))))))))
    | 13 => exact br_f (by decide) (br_f (by decide) (br_f (by decide) (br_f (by decide) (br_f (by decide) (br_f (by decide) (br_f (by decide) (br_f (by decide) (br_f (by decide) (br_f (by decide) (br_f (by decide) (br_t (by decide) (two (by omega)))))))))))))
    | 14 => exact br_f (by decide) (br_f (by decide) (br_f (by decide) (br_f (by decide) (br_f (by decide) (br_f (by decide) (br_f (by decide) (br_f (by decide) (br_f (by decide) (br_f (by decide) (br_f (by decide) (br_f (by decide) (br_t (by decide) (one (L.2.2.2.2.2.2.1 hK).2.1)))))))))))))
    | 15 =>
      obtain ⟨q, C, q1, q2, q3, q4, q5, q6, q7⟩ := L.2.2.2.2.2.2.2.1 hK
      have b1 := L.2.1
      refine br_f (by decide) (br_f (by decide) (br_f (by decide) (br_f (by decide) (br_f (by decide) (br_f (by decide) (br_f (by decide) (br_f (by decide) (br_f (by decide) (br_f (by decide) (br_f (by decide) (br_f (by decide) (br_f (by decide) (br_t (by decide) (?_))))))))))))))
      refine nm_r (e' := nI (b + (c + 1))) (by rw [nI_1, Nat.add_assoc]) ⟨33, xw_behindC W hb hk he (by omega) ?_ (q - (c + 1)) (c + 1) 0 33 (by omega) C (by omega) (by omega)⟩
      refine ⟨vp_in_nI (by omega) (by omega), ?_⟩
      rw [nI_clamp (by omega), hk q (by omega)]
      by_cases k15 : K q = 15
      · rw [k15, he q (by omega) (by omega), ← (q4 k15).1]
        exact br_t (by decide) ⟨vp_in_nI (by omega) (by omega), hp⟩
      · rw [q5 k15] at hp
        exact br_f (xw_kne W (k := 15) (by omega) k15) hp
    | 16 =>
      obtain ⟨o1, o2, o3, o4, o5⟩ := L.2.2.2.2.2.2.2.2.1 hK
      refine br_f (by decide) (br_f (by decide) (br_f (by decide) (br_f (by decide) (br_f (by decide) (br_f (by decide) (br_f (by decide) (br_f (by decide) (br_f (by decide) (br_f (by decide) (br_f (by decide) (br_f (by decide) (br_f (by decide) (br_f (by decide) (br_t (by decide) (⟨i1, ?_⟩)))))))))))))))
      rw [e1', nI_1, Nat.add_assoc, ← o4]; exact hp
    | 17 => exact br_f (by decide) (br_f (by decide) (br_f (by decide) (br_f (by decide) (br_f (by decide) (br_f (by decide) (br_f (by decide) (br_f (by decide) (br_f (by decide) (br_f (by decide) (br_f (by decide) (br_f (by decide) (br_f (by decide) (br_f (by decide) (br_f (by decide) (br_t (by decide) (leaf (by omega)))))))))))))))))
    | 18 => exact absurd (L.2.2.2.2.2.2.2.2.2.1 (by omega)) (by omega)
    | 19 => exact absurd (L.2.2.2.2.2.2.2.2.2.1 (by omega)) (by omega)
    | 20 => exact br_f (by decide) (br_f (by decide) (br_f (by decide) (br_f (by decide) (br_f (by decide) (br_f (by decide) (br_f (by decide) (br_f (by decide) (br_f (by decide) (br_f (by decide) (br_f (by decide) (br_f (by decide) (br_f (by decide) (br_f (by decide) (br_f (by decide) (br_f (by decide) (br_f (by decide) (br_f (by decide) (br_t (by decide) (leaf (by omega))))))))))))))))))))
    | 21 =>
      obtain ⟨p1, p2, p3, p4, p5, p6⟩ := L.2.2.2.2.2.2.2.2.2.2.2.2.1 hK
      have b1 := L.2.1
      refine br_f (by decide) (br_f (by decide) (br_f (by decide) (br_f (by decide) (br_f (by decide) (br_f (by decide) (br_f (by decide) (br_f (by decide) (br_f (by decide) (br_f (by decide) (br_f (by decide) (br_f (by decide) (br_f (by decide) (br_f (by decide) (br_f (by decide) (br_f (by decide) (br_f (by decide) (br_f (by decide) (br_f (by decide) (br_t (by decide) (?_))))))))))))))))))))
      rw [nI_1, Nat.add_assoc]
      exact ⟨33, xw_behindB W hb hk he b1 hp 32 (c + 1) 0 33 (by omega) p4 p1 (by omega) (by omega)⟩
    | 22 => exact br_f (by decide) (br_f (by decide) (br_f (by decide) (br_f (by decide) (br_f (by decide) (br_f (by decide) (br_f (by decide) (br_f (by decide) (br_f (by decide) (br_f (by decide) (br_f (by decide) (br_f (by decide) (br_f (by decide) (br_f (by decide) (br_f (by decide) (br_f (by decide) (br_f (by decide) (br_f (by decide) (br_f (by decide) (br_f (by decide) (br_t (by decide) (one (L.2.2.2.2.2.2.2.2.2.2.2.2.2.1 hK).2.1)))))))))))))))))))))
    | 23 => exact br_f (by decide) (br_f (by decide) (br_f (by decide) (br_f (by decide) (br_f (by decide) (br_f (by decide) (br_f (by decide) (br_f (by decide) (br_f (by decide) (br_f (by decide) (br_f (by decide) (br_f (by decide) (br_f (by decide) (br_f (by decide) (br_f (by decide) (br_f (by decide) (br_f (by decide) (br_f (by decide) (br_f (by decide) (br_f (by decide) (br_f (by decide) (br_t (by decide) (one (L.2.2.2.2.2.2.2.2.2.2.2.2.2.2.1 hK).2.1))))))))))))))))))))))
    | 24 =>
      obtain ⟨p0, pp, p1, p2, p3, p4, p5, p6⟩ := L.2.2.2.2.2.2.2.2.2.2.2.2.2.2.2.1 hK
      have b1 := L.2.1
      refine br_f (by decide) (br_f (by decide) (br_f (by decide) (br_f (by decide) (br_f (by decide) (br_f (by decide) (br_f (by decide) (br_f (by decide) (br_f (by decide) (br_f (by decide) (br_f (by decide) (br_f (by decide) (br_f (by decide) (br_f (by decide) (br_f (by decide) (br_f (by decide) (br_f (by decide) (br_f (by decide) (br_f (by decide) (br_f (by decide) (br_f (by decide) (br_f (by decide) (br_t (by decide) (⟨i1, ?_⟩)))))))))))))))))))))))
      rw [e1']
      exact ⟨33, xw_behindB W hb hk he b1 hp 32 (gm_e K (c + 1)) 0 33 (by omega) p4 p1 (by omega) (by omega)⟩
    | 25 =>
      obtain ⟨p0, pp, p1, p2, p3, p4, p5, p6⟩ := L.2.2.2.2.2.2.2.2.2.2.2.2.2.2.2.2.1 hK
      have b1 := L.2.1
      refine br_f (by decide) (br_f (by decide) (br_f (by decide) (br_f (by decide) (br_f (by decide) (br_f (by decide) (br_f (by decide) (br_f (by decide) (br_f (by decide) (br_f (by decide) (br_f (by decide) (br_f (by decide) (br_f (by decide) (br_f (by decide) (br_f (by decide) (br_f (by decide) (br_f (by decide) (br_f (by decide) (br_f (by decide) (br_f (by decide) (br_f (by decide) (br_f (by decide) (br_f (by decide) (br_t (by decide) (⟨i1, ?_⟩))))))))))))))))))))))))
      rw [e1']
      exact ⟨33, xw_behindB W hb hk he b1 hp 32 (gm_e K (c + 1)) 0 33 (by omega) p4 p1 (by omega) (by omega)⟩
    | k + 26 =>
      have := gm_k26 W c
      exact br_f (nI_nlt (b := 4) (by omega) (by omega)) (br_t (nI_lt (a := 25) (by omega) (by omega)) (leaf (by omega)))
  · have e27 := W.2.1 c hcl
    refine ⟨vp_in_nI (by omega) (by omega), nm_r (e' := nI 27) (by rw [nI_clamp (by omega), hkk, e27]) (br_f (by decide) (br_t (by decide) (leaf (by omega))))⟩
