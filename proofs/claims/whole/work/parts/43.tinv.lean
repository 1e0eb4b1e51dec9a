/-! transform: the invariant -/
def tp (K : Nat → Nat → Nat) (len : Nat → Nat) (th : Nat → Int32) (r c : Nat) : Prop := r < 6 ∧ th r = 1 ∧ gm_bp (K r) (len r) c ∧ len r ≤ 30
def tl (K : Nat → Nat → Nat) (len : Nat → Nat) (th : Nat → Int32) (n : Nat) (LL LN LP LS LB LR BL BR BS BE BRow BPc BNode BPos BSz : Nat → Int32) (j : Nat) : Prop :=
  BL j = LL j ∧ (∀ i, i < 32 → bt (LL j) i = true → i < n) ∧ BR j = LP j ∧ BS j = LS j ∧
  ((LB j = -1 ∧ BE j = -1) ∨ ∃ r c, tp K len th r c ∧ LB j = nI (32 * r + c) ∧ BE j = nI (30 * r + c) ∧ BRow j = nI r) ∧
  ((LR j = nI 223 ∧ BRow j = -1) ∨ ∃ r c, tp K len th r c ∧ LR j = nI (32 * r + c) ∧ BRow j = nI r ∧ BPc j = nI (30 * r + c) ∧ ∃ i a, j = i + 1 ∧ a < n ∧ LN i = nI a ∧ BNode j = nI a ∧ BPos j = LP i ∧ BSz j = LS i)
def tu (K : Nat → Nat → Nat) (len : Nat → Nat) (th : Nat → Int32) (n : Nat) (LN LP LS : Nat → Int32) (d : Nat) (cu row pc node pos size : Int32) : Prop :=
  (cu = nI 223 ∧ row = -1) ∨ ∃ r c, tp K len th r c ∧ cu = nI (32 * r + c) ∧ row = nI r ∧ pc = nI (30 * r + c) ∧ ∃ i a, d = i + 1 ∧ a < n ∧ LN i = nI a ∧ node = nI a ∧ pos = LP i ∧ size = LS i
def rm (x : Int32) : Nat := 31 - x.toNatClampNeg % 32
theorem rm_i : rm (nI 223) = 0 := by decide
theorem rm_c {r c : Nat} (hr : r < 6) (hc : c ≤ 30) : rm (nI (32 * r + c)) = 31 - c := by
  unfold rm
  rw [nI_clamp (by omega)]
  omega
def ph (LR : Nat → Int32) : Nat → Nat
  | 0 => 0
  | j + 1 => ph LR j + (1 + 2 * rm (LR j))
theorem ph_c {L L' : Nat → Int32} : ∀ {d : Nat}, (∀ i, i < d → L' i = L i) → ph L' d = ph L d
  | 0, _ => rfl
  | d + 1, h => by rw [ph, ph, ph_c (fun i hi => h i (by omega)), h d (by omega)]
theorem tl_lt {K : Nat → Nat → Nat} {len : Nat → Nat} {th : Nat → Int32} {n m j : Nat} {LL LN LP LS LB LR BL BR BS BE BRow BPc BNode BPos BSz LL' LN' LP' LS' LB' LR' BL' BR' BS' BE' BRow' BPc' BNode' BPos' BSz' : Nat → Int32} (hj : j < m)
    (a1 : ∀ i, i < m → LL' i = LL i) (a2 : ∀ i, i + 1 < m → LN' i = LN i) (a3 : ∀ i, i < m → LP' i = LP i) (a4 : ∀ i, i < m → LS' i = LS i) (a5 : ∀ i, i < m → LB' i = LB i) (a6 : ∀ i, i < m → LR' i = LR i) (a7 : ∀ i, i < m → BL' i = BL i) (a8 : ∀ i, i < m → BR' i = BR i) (a9 : ∀ i, i < m → BS' i = BS i) (a10 : ∀ i, i < m → BE' i = BE i) (a11 : ∀ i, i < m → BRow' i = BRow i) (a12 : ∀ i, i < m → BPc' i = BPc i) (a13 : ∀ i, i < m → BNode' i = BNode i) (a14 : ∀ i, i < m → BPos' i = BPos i) (a15 : ∀ i, i < m → BSz' i = BSz i)
    (h : tl K len th n LL LN LP LS LB LR BL BR BS BE BRow BPc BNode BPos BSz j) : tl K len th n LL' LN' LP' LS' LB' LR' BL' BR' BS' BE' BRow' BPc' BNode' BPos' BSz' j := by
  unfold tl
  rw [a1 j hj, a3 j hj, a4 j hj, a5 j hj, a6 j hj, a7 j hj, a8 j hj, a9 j hj, a10 j hj, a11 j hj, a12 j hj, a13 j hj, a14 j hj, a15 j hj]
  obtain ⟨h1, h2, h3, h4, h5, h6⟩ := h
  refine ⟨h1, h2, h3, h4, h5, ?_⟩
  rcases h6 with z | ⟨r, c, p, q1, q2, q3, i, a, e, ha, q4, q5, q6, q7⟩
  · exact Or.inl z
  · exact Or.inr ⟨r, c, p, q1, q2, q3, i, a, e, ha, by rw [a2 i (by omega)]; exact q4, q5, by rw [a3 i (by omega)]; exact q6, by rw [a4 i (by omega)]; exact q7⟩
