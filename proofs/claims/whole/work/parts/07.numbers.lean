/-! numbers, conditions, what a path selects: pure, over a table tb of cell and node -/
theorem gm_en_ge (K : Nat → Nat) : ∀ f m i, i ≤ gm_en K f m i := by
  intro f
  induction f with
  | zero => intro m i; exact Nat.le_refl _
  | succ f ih =>
    intro m i
    rw [gm_en]
    have a := ih 0 i
    have b := ih 0 (i + 1)
    have c := ih 1 (i + 1)
    have d := ih 2 (i + 1)
    have e := ih 1 (gm_en K f 0 i)
    have g := ih 2 (gm_en K f 0 i)
    have h := ih 0 (gm_en K f 0 (i + 1))
    have k := ih 0 (gm_en K f 1 (i + 1))
    have l := ih 2 (gm_en K f 0 (i + 1))
    repeat' split
    all_goals omega
def nu_c (t : Nat) (x y : Int32) : Int32 :=
  if t = 7 then x + y else if t = 8 then x - y else if t = 9 then x * y else if t = 10 then (if x < y then 1 else 0) else if t = 11 then (if x = y then 1 else 0)
  else if t = 12 then (if x ≠ 0 ∧ y ≠ 0 then 1 else 0) else (if x ≠ 0 ∨ y ≠ 0 then 1 else 0)
def nu_v (K : Nat → Nat) (O V : Nat → Int32) (tb : Nat → Nat → Int32) (nd : Nat) (ps sz : Int32) : Nat → Nat → Int32
  | 0, _ => 0
  | f + 1, c =>
    if K c = 0 then O c else if K c = 1 then ps else if K c = 2 then sz else if K c = 3 then V nd
    else if K c ≤ 6 then tb c nd
    else if K c ≤ 13 then nu_c (K c) (nu_v K O V tb nd ps sz f (c + 1)) (nu_v K O V tb nd ps sz f (gm_e K (c + 1)))
    else if K c = 14 then (if nu_v K O V tb nd ps sz f (c + 1) = 0 then 1 else 0)
    else 0
abbrev nu_n (K : Nat → Nat) (O V : Nat → Int32) (tb : Nat → Nat → Int32) (nd : Nat) (ps sz : Int32) (c : Nat) : Int32 := nu_v K O V tb nd ps sz 64 c
theorem nu_vf {K : Nat → Nat} {len : Nat} (W : gm_W K len) (O V : Nat → Int32) (tb : Nat → Nat → Int32) (nd : Nat) (ps sz : Int32) : ∀ f g c, c < len → 32 ≤ f + c → 32 ≤ g + c → nu_v K O V tb nd ps sz f c = nu_v K O V tb nd ps sz g c := by
  intro f
  induction f with
  | zero => intro g c hc h; have := W.1; omega
  | succ f ih =>
    intro g c hc h1 h2
    have hl := W.1
    obtain ⟨g, rfl⟩ : ∃ x, g = x + 1 := ⟨g - 1, by omega⟩
    have L := W.2.2 c hc
    rw [nu_v, nu_v]
    by_cases k6 : K c ≤ 6
    · simp only [if_pos k6]
    · by_cases k13 : K c ≤ 13
      · obtain ⟨a1, a2, a3, a4, a5⟩ := L.2.2.2.2.2.1 ⟨by omega, k13⟩
        have b := L.2.1
        have e1 := ih g (c + 1) (by omega) (by omega) (by omega)
        have e2 := ih g (gm_e K (c + 1)) (by omega) (by omega) (by omega)
        rw [e1, e2]
      · by_cases k14 : K c = 14
        · obtain ⟨a1, a2, a3⟩ := L.2.2.2.2.2.2.1 k14
          have b := L.2.1
          rw [ih g (c + 1) (by omega) (by omega) (by omega)]
          simp only [if_neg k13]
        · simp only [if_neg k13, if_neg k14]
theorem nu_n0 {K : Nat → Nat} {O V : Nat → Int32} {tb : Nat → Nat → Int32} {nd : Nat} {ps sz : Int32} {c : Nat} (h : K c = 0) : nu_n K O V tb nd ps sz c = O c := by
  show nu_v K O V tb nd ps sz (63 + 1) c = _
  rw [nu_v, if_pos h]
theorem nu_n1 {K : Nat → Nat} {O V : Nat → Int32} {tb : Nat → Nat → Int32} {nd : Nat} {ps sz : Int32} {c : Nat} (h : K c = 1) : nu_n K O V tb nd ps sz c = ps := by
  show nu_v K O V tb nd ps sz (63 + 1) c = _
  rw [nu_v, if_neg (by omega), if_pos h]
theorem nu_n2 {K : Nat → Nat} {O V : Nat → Int32} {tb : Nat → Nat → Int32} {nd : Nat} {ps sz : Int32} {c : Nat} (h : K c = 2) : nu_n K O V tb nd ps sz c = sz := by
  show nu_v K O V tb nd ps sz (63 + 1) c = _
  rw [nu_v, if_neg (by omega), if_neg (by omega), if_pos h]
theorem nu_n3 {K : Nat → Nat} {O V : Nat → Int32} {tb : Nat → Nat → Int32} {nd : Nat} {ps sz : Int32} {c : Nat} (h : K c = 3) : nu_n K O V tb nd ps sz c = V nd := by
  show nu_v K O V tb nd ps sz (63 + 1) c = _
  rw [nu_v, if_neg (by omega), if_neg (by omega), if_neg (by omega), if_pos h]
theorem nu_n6 {K : Nat → Nat} {O V : Nat → Int32} {tb : Nat → Nat → Int32} {nd : Nat} {ps sz : Int32} {c : Nat} (h : 4 ≤ K c) (h6 : K c ≤ 6) : nu_n K O V tb nd ps sz c = tb c nd := by
  show nu_v K O V tb nd ps sz (63 + 1) c = _
  rw [nu_v, if_neg (by omega), if_neg (by omega), if_neg (by omega), if_neg (by omega), if_pos h6]
theorem nu_n13 {K : Nat → Nat} {len : Nat} (W : gm_W K len) {O V : Nat → Int32} {tb : Nat → Nat → Int32} {nd : Nat} {ps sz : Int32} {c : Nat} (hc : c < len) (h : 7 ≤ K c) (h6 : K c ≤ 13) : nu_n K O V tb nd ps sz c = nu_c (K c) (nu_n K O V tb nd ps sz (c + 1)) (nu_n K O V tb nd ps sz (gm_e K (c + 1))) := by
  have L := W.2.2 c hc
  obtain ⟨a1, a2, a3, a4, a5⟩ := L.2.2.2.2.2.1 ⟨h, h6⟩
  have b := L.2.1
  show nu_v K O V tb nd ps sz (63 + 1) c = _
  rw [nu_v, if_neg (by omega), if_neg (by omega), if_neg (by omega), if_neg (by omega), if_neg (by omega), if_pos h6,
    nu_vf W O V tb nd ps sz 63 64 (c + 1) (by omega) (by omega) (by omega), nu_vf W O V tb nd ps sz 63 64 (gm_e K (c + 1)) (by omega) (by omega) (by omega)]
theorem nu_n14 {K : Nat → Nat} {len : Nat} (W : gm_W K len) {O V : Nat → Int32} {tb : Nat → Nat → Int32} {nd : Nat} {ps sz : Int32} {c : Nat} (hc : c < len) (h : K c = 14) : nu_n K O V tb nd ps sz c = if nu_n K O V tb nd ps sz (c + 1) = 0 then 1 else 0 := by
  have L := W.2.2 c hc
  obtain ⟨a1, a2, a3⟩ := L.2.2.2.2.2.2.1 h
  have b := L.2.1
  show nu_v K O V tb nd ps sz (63 + 1) c = _
  rw [nu_v, if_neg (by omega), if_neg (by omega), if_neg (by omega), if_neg (by omega), if_neg (by omega), if_neg (by omega), if_pos h,
    nu_vf W O V tb nd ps sz 63 64 (c + 1) (by omega) (by omega) (by omega)]
/-- the list that a row of conditions from c on leaves of L -/
def nu_cd (K : Nat → Nat) (O V : Nat → Int32) (tb : Nat → Nat → Int32) : Nat → Nat → List Nat → List Nat
  | 0, _, L => L
  | f + 1, c, L => if K c = 16 then nu_cd K O V tb f (gm_e K c) (ls_f (fun m p => decide (nu_n K O V tb m (nI p) (nI L.length) (c + 1) ≠ 0)) 0 L) else L
theorem nu_cdm {K : Nat → Nat} {O V : Nat → Int32} {tb : Nat → Nat → Int32} {m : Nat} : ∀ {f c : Nat} {L : List Nat}, m ∈ nu_cd K O V tb f c L → m ∈ L
  | 0, _, _, h => h
  | f + 1, c, L, h => by
    rw [nu_cd] at h
    by_cases k : K c = 16
    · rw [if_pos k] at h
      exact ls_fm (nu_cdm h)
    · rw [if_neg k] at h
      exact h
theorem nu_vc {K : Nat → Nat} {O V : Nat → Int32} {tb tb' : Nat → Nat → Int32} {nd : Nat} {ps sz : Int32} {c0 : Nat} (h : ∀ x a, c0 ≤ x → tb x a = tb' x a) : ∀ f c, c0 ≤ c → nu_v K O V tb nd ps sz f c = nu_v K O V tb' nd ps sz f c := by
  intro f
  induction f with
  | zero => intro c _; rfl
  | succ f ih =>
    intro c hc
    have g : c + 1 ≤ gm_e K (c + 1) := gm_en_ge K 64 0 (c + 1)
    rw [nu_v, nu_v, ih (c + 1) (by omega), ih (gm_e K (c + 1)) (by omega), h c nd hc]
theorem nu_cdc {K : Nat → Nat} {O V : Nat → Int32} {tb tb' : Nat → Nat → Int32} {c0 : Nat} (h : ∀ x a, c0 ≤ x → tb x a = tb' x a) : ∀ f c L, c0 ≤ c → nu_cd K O V tb f c L = nu_cd K O V tb' f c L := by
  intro f
  induction f with
  | zero => intro c L _; rfl
  | succ f ih =>
    intro c L hc
    have g : c ≤ gm_e K c := gm_en_ge K 64 0 c
    have e : (fun m p => decide (nu_n K O V tb m (nI p) (nI L.length) (c + 1) ≠ 0)) = (fun m p => decide (nu_n K O V tb' m (nI p) (nI L.length) (c + 1) ≠ 0)) := by
      funext m p
      rw [nu_n, nu_n, nu_vc h 64 (c + 1) (by omega)]
    rw [nu_cd, nu_cd, e, ih _ _ (by omega)]
theorem nu_cd_ge {K : Nat → Nat} {len q : Nat} : ∀ {f i : Nat}, gm_cd K len f i q → i ≤ q ∧ K q ≠ 16
  | 0, i, h => by rw [gm_cd] at h; exact ⟨Nat.le_of_eq h.1, h.1 ▸ h.2⟩
  | f + 1, i, h => by
    rcases h with h | ⟨a, b, c, d, h⟩
    · exact ⟨Nat.le_of_eq h.1, h.1 ▸ h.2⟩
    · have := nu_cd_ge h
      exact ⟨by omega, this.2⟩
theorem nu_cd_u {K : Nat → Nat} {len q q' : Nat} : ∀ {f g i : Nat}, gm_cd K len f i q → gm_cd K len g i q' → q = q' := by
  intro f
  induction f with
  | zero =>
    intro g i h h'
    cases g with
    | zero => exact h.1.symm.trans h'.1
    | succ g =>
      rcases h' with h' | h'
      · exact h.1.symm.trans h'.1
      · exact absurd h'.1 h.2
  | succ f ih =>
    intro g i h h'
    rcases h with h | ⟨a, b, c, d, h⟩
    · cases g with
      | zero => exact h.1.symm.trans h'.1
      | succ g =>
        rcases h' with h' | h'
        · exact h.1.symm.trans h'.1
        · exact absurd h'.1 h.2
    · cases g with
      | zero => exact absurd a h'.2
      | succ g =>
        rcases h' with h' | ⟨a', b', c', d', h'⟩
        · exact absurd a h'.2
        · exact ih h h'
theorem nu_cdf {K : Nat → Nat} {len q : Nat} {O V : Nat → Int32} {tb : Nat → Nat → Int32} : ∀ {d i : Nat} {L : List Nat} (f g : Nat), gm_cd K len d i q → q ≤ i + f → q ≤ i + g → nu_cd K O V tb f i L = nu_cd K O V tb g i L := by
  intro d
  induction d with
  | zero =>
    intro i L f g h _ _
    cases f <;> cases g <;> simp only [nu_cd, if_neg h.2]
  | succ d ih =>
    intro i L f g h h1 h2
    rcases h with h | ⟨a, b, c, e, h⟩
    · cases f <;> cases g <;> simp only [nu_cd, if_neg h.2]
    · obtain ⟨f, rfl⟩ : ∃ x, f = x + 1 := ⟨f - 1, by omega⟩
      obtain ⟨g, rfl⟩ : ∃ x, g = x + 1 := ⟨g - 1, by omega⟩
      rw [nu_cd, nu_cd, if_pos a, if_pos a]
      exact ih f g h (by omega) (by omega)
abbrev nu_o (O : Nat → Int32) (c : Nat) : Nat := (O c).toNatClampNeg
def nu_bk (ax : Nat) : Bool := decide (ax = 2 ∨ ax = 4 ∨ ax = 6 ∨ ax = 8)
/-- the list of the STEP at c from the node a, its conditions done -/
def nu_L (K : Nat → Nat) (O V P N : Nat → Int32) (n : Nat) (tb : Nat → Nat → Int32) (c a : Nat) : List Nat :=
  nu_cd K O V tb 32 (c + 1) ((ls_T (nu_bk (nu_o O c / 8)) n).filter (tr_s P N (nu_o O c) a))
theorem nu_Lm {K : Nat → Nat} {O V P N : Nat → Int32} {n : Nat} {tb : Nat → Nat → Int32} {c a m : Nat} (h : m ∈ nu_L K O V P N n tb c a) : m < n := by
  have := nu_cdm h
  rw [List.mem_filter, ls_Tm] at this
  exact this.1
/-- how many of the first k bits are set; the sum of the values there; the value of the first -/
def nu_cnt (x : Int32) : Nat → Nat
  | 0 => 0
  | k + 1 => nu_cnt x k + (if bt x k = true then 1 else 0)
def nu_sum (V : Nat → Int32) (x : Int32) : Nat → Int32
  | 0 => 0
  | k + 1 => nu_sum V x k + (if bt x k = true then V k else 0)
def nu_fst (V : Nat → Int32) (x : Int32) : Nat → Int32
  | 0 => 0
  | k + 1 => if nu_cnt x k = 0 then (if bt x k = true then V k else 0) else nu_fst V x k
def nu_m (V : Nat → Int32) (n t : Nat) (x : Int32) : Int32 := if t = 4 then nI (nu_cnt x n) else if t = 5 then nu_sum V x n else nu_fst V x n
theorem nu_cnt_le (x : Int32) : ∀ k, nu_cnt x k ≤ k
  | 0 => Nat.le_refl _
  | k + 1 => by rw [nu_cnt]; have := nu_cnt_le x k; split <;> omega
/-- what the table holds at the cell c, for each node -/
def nu_TE (K : Nat → Nat) (O V P N : Nat → Int32) (len n : Nat) (tb : Nat → Nat → Int32) (c : Nat) : Prop :=
  ∀ a, a < n →
    (K c = 15 → ∀ q, gm_cd K len (q - (c + 1)) (c + 1) q → ∀ i, i < 32 → (bt (tb c a) i = true ↔ (K q = 15 ∧ ∃ m, m ∈ nu_L K O V P N n tb c a ∧ bt (tb q m) i = true) ∨ (K q ≠ 15 ∧ i ∈ nu_L K O V P N n tb c a))) ∧
    (4 ≤ K c ∧ K c ≤ 6 → tb c a = nu_m V n (K c) (tb (c + 1) a))
theorem nu_TEc {K : Nat → Nat} {O V P N : Nat → Int32} {len n : Nat} {tb tb' : Nat → Nat → Int32} {c : Nat} (h : ∀ x a, c ≤ x → tb x a = tb' x a) (T : nu_TE K O V P N len n tb c) : nu_TE K O V P N len n tb' c := by
  intro a ha
  have eL : nu_L K O V P N n tb c a = nu_L K O V P N n tb' c a := nu_cdc (c0 := c) h 32 (c + 1) _ (by omega)
  refine ⟨fun hk q hq i hi => ?_, fun hk => ?_⟩
  · have g := (nu_cd_ge hq).1
    have t := (T a ha).1 hk q hq i hi
    rw [eL, h c a (Nat.le_refl _)] at t
    refine t.trans ⟨fun z => ?_, fun z => ?_⟩
    · rcases z with ⟨z1, m, hm, z2⟩ | z
      · exact Or.inl ⟨z1, m, hm, by rw [← h q m (by omega)]; exact z2⟩
      · exact Or.inr z
    · rcases z with ⟨z1, m, hm, z2⟩ | z
      · exact Or.inl ⟨z1, m, hm, by rw [h q m (by omega)]; exact z2⟩
      · exact Or.inr z
  · rw [← h c a (Nat.le_refl _), ← h (c + 1) a (by omega)]
    exact (T a ha).2 hk
/-- a selection holds nodes of the document alone -/
theorem nu_TEn' {K : Nat → Nat} {O V P N : Nat → Int32} {len n : Nat} {tb : Nat → Nat → Int32} (W : gm_W K len) (c0 : Nat) (hT : ∀ c, c0 ≤ c → c < len → nu_TE K O V P N len n tb c) : ∀ d c, c0 ≤ c → c + d = len → K c = 15 → ∀ a, a < n → ∀ i, i < 32 → bt (tb c a) i = true → i < n := by
  intro d
  induction d using Nat.strongRecOn with
  | _ d ih =>
    intro c h0 hc hk a ha i hi h
    have hcl : c < len := by
      rcases Nat.lt_or_ge c len with z | z
      · exact z
      · have := W.2.1 c z; omega
    have L := W.2.2 c hcl
    obtain ⟨q, C, h1, h2, _, h4, h5, _⟩ := L.2.2.2.2.2.2.2.1 hk
    have hl := L.2.1
    rcases ((hT c h0 hcl a ha).1 hk q C i hi).mp h with ⟨k15, m, hm, hb⟩ | ⟨_, hm⟩
    · have := (h4 k15).2
      exact ih (len - q) (by omega) q (by omega) (by omega) k15 m (nu_Lm hm) i hi hb
    · exact nu_Lm hm
