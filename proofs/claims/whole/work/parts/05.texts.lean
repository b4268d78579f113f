/-! the picture of the reads in the arrays, and the joiner's questions about a text -/
def pc_P (c : Nat) (L : Nat → Nat) (sy : Nat → Nat → Nat) (fc : Int32) (aS aL : Nat → Int32) : Prop := fc = nI c ∧ c ≤ 5 ∧ (∀ i, i < c → aL i = nI (L i) ∧ L i ≤ 6) ∧ ∀ i, i < c → ∀ x, x < L i → aS (6 * i + x) = nI (sy i x) ∧ sy i x < 4
def pc_T (a : Nat → Int32) (s n : Nat) (f : Nat → Nat) : Prop := ∀ x, x < n → a (s + x) = nI (f x) ∧ f x < 4
def tx_St (a aS : Nat → Int32) (s j l p : Nat) : Prop := ∀ x, x < l → a (s + p + x) = aS (6 * j + x)
def tx_Ov (a aS : Nat → Int32) (s n j k : Nat) : Prop := ∀ x, x < k → a (s + n - k + x) = aS (6 * j + x)
theorem tx_eq {a aS : Nat → Int32} {s n j l : Nat} {f : Nat → Nat} {sy : Nat → Nat → Nat} (h : pc_T a s n f) (hs : ∀ x, x < l → aS (6 * j + x) = nI (sy j x) ∧ sy j x < 4) {p x : Nat} (hp : p + x < n) (hx : x < l) : a (s + p + x) = aS (6 * j + x) ↔ f (p + x) = sy j x := by
  obtain ⟨a1, a2⟩ := h (p + x) hp
  obtain ⟨b1, b2⟩ := hs x hx
  rw [Nat.add_assoc, a1, b1, nI_eq (by omega) (by omega)]
theorem tx_at {a aS : Nat → Int32} {s n j l : Nat} {f : Nat → Nat} {sy : Nat → Nat → Nat} (h : pc_T a s n f) (hs : ∀ x, x < l → aS (6 * j + x) = nI (sy j x) ∧ sy j x < 4) {p : Nat} (hp : p + l ≤ n) : tx_St a aS s j l p ↔ ∀ x, x < l → f (p + x) = sy j x :=
  ⟨fun q x hx => (tx_eq h hs (by omega) hx).mp (q x hx), fun q x hx => (tx_eq h hs (by omega) hx).mpr (q x hx)⟩
theorem tx_ov {a aS : Nat → Int32} {s n j l k : Nat} {f : Nat → Nat} {sy : Nat → Nat → Nat} (h : pc_T a s n f) (hs : ∀ x, x < l → aS (6 * j + x) = nI (sy j x) ∧ sy j x < 4) (hk : k ≤ n) (hl : k ≤ l) : tx_Ov a aS s n j k ↔ ∀ x, x < k → f (n - k + x) = sy j x := by
  have e : s + n - k = s + (n - k) := by omega
  unfold tx_Ov
  rw [e]
  exact ⟨fun q x hx => (tx_eq h hs (by omega) (by omega)).mp (q x hx), fun q x hx => (tx_eq h hs (by omega) (by omega)).mpr (q x hx)⟩
theorem nu_6 (j : Nat) : nI j * 6 = nI (6 * j) := (pk_mul j 6).trans (congrArg nI (Nat.mul_comm j 6))
theorem nu_6' (j : Nat) : 6 * nI j = nI (6 * j) := pk_mul 6 j
theorem xs_read {post : Int32 → Prop} {c : Nat} {tl jl : Int32} {aS aL aO aT aJ : Nat → Int32} (hc : c ≤ 5) (i : Int32) (hy : ∀ j, j < c → i = nI j → post 1) (hn : (i < 0 ∨ nI c ≤ i) → post 0) : wpX_isRead post (nI c, tl, jl, aS, aL, aO, aT, aJ) i := by
  rcases pk_ix i (n := c) (by omega) with h | h | ⟨j, hj, rfl⟩
  · exact br_t h (hn (Or.inl h))
  · exact br_c (fun _ => hn (Or.inr h)) (fun _ => br_t h (hn (Or.inr h)))
  · exact br_f (nI_pos (by omega)) (br_f (nI_ge hj (by omega)) (hy j hj rfl))
theorem xs_same_symbols_l {post : Int32 → Prop} {fc tl jl : Int32} {aS aL aO aT aJ : Nat → Int32} {p q n : Nat} (h1 : p + n ≤ 30) (h2 : q + n ≤ 30) (hy : (∀ x, x < n → aS (p + x) = aS (q + x)) → post 1) (hn : ∀ x, x < n → ¬ aS (p + x) = aS (q + x) → post 0) : ∀ d i, i + d = n → (∀ x, x < i → aS (p + x) = aS (q + x)) → wX_sameSymbols__symbols_3 post (nI p) (nI q) (nI n) fc tl jl aS aL aO aT aJ (d + 1) (nI i) := by
  intro d
  induction d with
  | zero =>
    intro i hi hp
    have e : i = n := by omega
    subst e
    exact br_t (nI_le (Nat.le_refl _) (by omega)) (hy hp)
  | succ d ih =>
    intro i hi hp
    have e1 : nI p + nI i = nI (p + i) := nI_add p i
    have e2 : nI q + nI i = nI (q + i) := nI_add q i
    refine br_f (nI_ge (by omega) (by omega)) ⟨pk_in (p + i) 30 (by omega) e1, pk_in (q + i) 30 (by omega) e2, br_c (fun h => nm_r (nI_1 i) ?_) (fun h => ?_)⟩
    · rw [pk_cl (p + i) e1, pk_cl (q + i) e2] at h
      exact ih (i + 1) (by omega) (lt_s hp h)
    · rw [pk_cl (p + i) e1, pk_cl (q + i) e2] at h
      exact hn i (by omega) h
theorem xs_same_symbols {post : Int32 → Prop} {fc tl jl : Int32} {aS aL aO aT aJ : Nat → Int32} {x1 x2 x3 : Int32} (p q n : Nat) (h1 : p + n ≤ 30) (h2 : q + n ≤ 30) (hy : (∀ x, x < n → aS (p + x) = aS (q + x)) → post 1) (hn : ¬ (∀ x, x < n → aS (p + x) = aS (q + x)) → post 0) (e1 : x1 = nI p) (e2 : x2 = nI q) (e3 : x3 = nI n) : wpX_sameSymbols__symbols post (fc, tl, jl, aS, aL, aO, aT, aJ) x1 x2 x3 := by
  subst e1 e2 e3
  exact ⟨n + 1, xs_same_symbols_l h1 h2 hy (fun x hx h => hn (fun z => h (z x hx))) n 0 (by omega) (fun x hx => absurd hx (Nat.not_lt_zero x))⟩
theorem xs_place_symbols_l {post : Int32 → Prop} {fc tl jl : Int32} {aS aL aO aT aJ : Nat → Int32} {s n j l : Nat} (hj : j < 5) (hl : aL j = nI l) (hl6 : l ≤ 6) (hn : s + n ≤ 30) (hy : ∀ p, p + l ≤ n → tx_St aS aS s j l p → (∀ b, b < p → ¬ tx_St aS aS s j l b) → post (nI p)) (hno : (∀ b, b + l ≤ n → ¬ tx_St aS aS s j l b) → post (-1)) : ∀ d p, p + d = n + 1 → (∀ b, b < p → ¬ tx_St aS aS s j l b) → wX_placeIn__symbols_3 post (nI s) (nI n) (nI j) fc tl jl aS aL aO aT aJ (d + 1) (nI p) := by
  intro d
  have ec : aL (nI j).toNatClampNeg = nI l := by rw [nI_clamp (by omega)]; exact hl
  induction d with
  | zero =>
    intro p hp hb
    refine ⟨vp_in_nI hj (by omega), br_t ?_ (hno (fun b h => hb b (by omega)))⟩
    rw [ec, nI_add]
    exact nI_lt (by omega) (by omega)
  | succ d ih =>
    intro p hp hb
    by_cases c : p + l ≤ n
    · refine ⟨vp_in_nI hj (by omega), br_f ?_ ⟨vp_in_nI hj (by omega), ?_⟩⟩
      · rw [ec, nI_add]
        exact nI_nlt c (by omega)
      · refine xs_same_symbols (s + p) (6 * j) l (by omega) (by omega) (fun h => ?_) (fun h => ?_) (nI_add s p) (nu_6 j) ec
        · exact br_f (by decide) (hy p c h hb)
        · exact br_t rfl (nm_r (nI_1 p) (ih (p + 1) (by omega) (lt_s hb h)))
    · refine ⟨vp_in_nI hj (by omega), br_t ?_ (hno (fun b h => hb b (by omega)))⟩
      rw [ec, nI_add]
      exact nI_lt (by omega) (by omega)
theorem xs_place_symbols {post : Int32 → Prop} {fc tl jl : Int32} {aS aL aO aT aJ : Nat → Int32} {x1 x2 x3 : Int32} (s n j l : Nat) (hj : j < 5) (hl : aL j = nI l) (hl6 : l ≤ 6) (hn : s + n ≤ 30) (hy : ∀ p, p + l ≤ n → tx_St aS aS s j l p → (∀ b, b < p → ¬ tx_St aS aS s j l b) → post (nI p)) (hno : (∀ b, b + l ≤ n → ¬ tx_St aS aS s j l b) → post (-1)) (e1 : x1 = nI s) (e2 : x2 = nI n) (e3 : x3 = nI j) : wpX_placeIn__symbols post (fc, tl, jl, aS, aL, aO, aT, aJ) x1 x2 x3 := by
  subst e1 e2 e3
  exact ⟨n + 1 + 1, xs_place_symbols_l hj hl hl6 hn hy hno (n + 1) 0 (by omega) (fun b hb => absurd hb (Nat.not_lt_zero b))⟩
theorem xs_over_symbols_l {post : Int32 → Prop} {fc tl jl : Int32} {aS aL aO aT aJ : Nat → Int32} {s n j l : Nat} (hj : j < 5) (hl6 : l ≤ 6) (hn : s + n ≤ 30) (hy : ∀ k, k ≤ n → k ≤ l → tx_Ov aS aS s n j k → (∀ q, k < q → q ≤ n → q ≤ l → ¬ tx_Ov aS aS s n j q) → post (nI k)) : ∀ k, k ≤ n → k ≤ l → (∀ q, k < q → q ≤ n → q ≤ l → ¬ tx_Ov aS aS s n j q) → wX_overlapWith__symbols_28 post (nI s) (nI n) (nI j) fc tl jl aS aL aO aT aJ (k + 1) (nI k) := by
  intro k
  induction k with
  | zero =>
    intro h1 h2 hq
    exact br_t (by decide) (hy 0 h1 h2 (fun x hx => absurd hx (Nat.not_lt_zero x)) hq)
  | succ k ih =>
    intro h1 h2 hq
    refine br_f (nI_nle (by omega) (by omega)) ?_
    refine xs_same_symbols (s + n - (k + 1)) (6 * j) (k + 1) (by omega) (by omega) (fun h => ?_) (fun h => ?_) (by rw [nI_add, pk_sub (by omega)]) (nu_6 j) rfl
    · exact br_f (by decide) (hy (k + 1) h1 h2 h hq)
    · refine br_t rfl (nm_r (pk_m1 k) (ih (by omega) (by omega) (fun q q1 q2 q3 => ?_)))
      by_cases c : q = k + 1
      · subst c; exact h
      · exact hq q (by omega) q2 q3
theorem xs_over_symbols {post : Int32 → Prop} {fc tl jl : Int32} {aS aL aO aT aJ : Nat → Int32} {x1 x2 x3 : Int32} (s n j l : Nat) (hj : j < 5) (hl : aL j = nI l) (hl6 : l ≤ 6) (hn : s + n ≤ 30) (hy : ∀ k, k ≤ n → k ≤ l → tx_Ov aS aS s n j k → (∀ q, k < q → q ≤ n → q ≤ l → ¬ tx_Ov aS aS s n j q) → post (nI k)) (e1 : x1 = nI s) (e2 : x2 = nI n) (e3 : x3 = nI j) : wpX_overlapWith__symbols post (fc, tl, jl, aS, aL, aO, aT, aJ) x1 x2 x3 := by
  subst e1 e2 e3
  have ec : aL (nI j).toNatClampNeg = nI l := by rw [nI_clamp (by omega)]; exact hl
  refine ⟨vp_in_nI hj (by omega), pk_le l n (fun h => ⟨vp_in_nI hj (by omega), nm_r ec ?_⟩) (fun h => ?_) ec rfl⟩
  · exact ⟨l + 1, xs_over_symbols_l hj hl6 hn hy l h (Nat.le_refl _) (fun q q1 q2 q3 => by omega)⟩
  · exact ⟨n + 1, xs_over_symbols_l hj hl6 hn hy n (Nat.le_refl _) (by omega) (fun q q1 q2 q3 => by omega)⟩
theorem xs_same_trial_l {post : Int32 → Prop} {fc tl jl : Int32} {aS aL aO aT aJ : Nat → Int32} {p q n : Nat} (h1 : p + n ≤ 30) (h2 : q + n ≤ 30) (hy : (∀ x, x < n → aT (p + x) = aS (q + x)) → post 1) (hn : ∀ x, x < n → ¬ aT (p + x) = aS (q + x) → post 0) : ∀ d i, i + d = n → (∀ x, x < i → aT (p + x) = aS (q + x)) → wX_sameSymbols__trial_3 post (nI p) (nI q) (nI n) fc tl jl aS aL aO aT aJ (d + 1) (nI i) := by
  intro d
  induction d with
  | zero =>
    intro i hi hp
    have e : i = n := by omega
    subst e
    exact br_t (nI_le (Nat.le_refl _) (by omega)) (hy hp)
  | succ d ih =>
    intro i hi hp
    have e1 : nI p + nI i = nI (p + i) := nI_add p i
    have e2 : nI q + nI i = nI (q + i) := nI_add q i
    refine br_f (nI_ge (by omega) (by omega)) ⟨pk_in (p + i) 30 (by omega) e1, pk_in (q + i) 30 (by omega) e2, br_c (fun h => nm_r (nI_1 i) ?_) (fun h => ?_)⟩
    · rw [pk_cl (p + i) e1, pk_cl (q + i) e2] at h
      exact ih (i + 1) (by omega) (lt_s hp h)
    · rw [pk_cl (p + i) e1, pk_cl (q + i) e2] at h
      exact hn i (by omega) h
theorem xs_same_trial {post : Int32 → Prop} {fc tl jl : Int32} {aS aL aO aT aJ : Nat → Int32} {x1 x2 x3 : Int32} (p q n : Nat) (h1 : p + n ≤ 30) (h2 : q + n ≤ 30) (hy : (∀ x, x < n → aT (p + x) = aS (q + x)) → post 1) (hn : ¬ (∀ x, x < n → aT (p + x) = aS (q + x)) → post 0) (e1 : x1 = nI p) (e2 : x2 = nI q) (e3 : x3 = nI n) : wpX_sameSymbols__trial post (fc, tl, jl, aS, aL, aO, aT, aJ) x1 x2 x3 := by
  subst e1 e2 e3
  exact ⟨n + 1, xs_same_trial_l h1 h2 hy (fun x hx h => hn (fun z => h (z x hx))) n 0 (by omega) (fun x hx => absurd hx (Nat.not_lt_zero x))⟩
theorem xs_place_trial_l {post : Int32 → Prop} {fc tl jl : Int32} {aS aL aO aT aJ : Nat → Int32} {s n j l : Nat} (hj : j < 5) (hl : aL j = nI l) (hl6 : l ≤ 6) (hn : s + n ≤ 30) (hy : ∀ p, p + l ≤ n → tx_St aT aS s j l p → (∀ b, b < p → ¬ tx_St aT aS s j l b) → post (nI p)) (hno : (∀ b, b + l ≤ n → ¬ tx_St aT aS s j l b) → post (-1)) : ∀ d p, p + d = n + 1 → (∀ b, b < p → ¬ tx_St aT aS s j l b) → wX_placeIn__trial_3 post (nI s) (nI n) (nI j) fc tl jl aS aL aO aT aJ (d + 1) (nI p) := by
  intro d
  have ec : aL (nI j).toNatClampNeg = nI l := by rw [nI_clamp (by omega)]; exact hl
  induction d with
  | zero =>
    intro p hp hb
    refine ⟨vp_in_nI hj (by omega), br_t ?_ (hno (fun b h => hb b (by omega)))⟩
    rw [ec, nI_add]
    exact nI_lt (by omega) (by omega)
  | succ d ih =>
    intro p hp hb
    by_cases c : p + l ≤ n
    · refine ⟨vp_in_nI hj (by omega), br_f ?_ ⟨vp_in_nI hj (by omega), ?_⟩⟩
      · rw [ec, nI_add]
        exact nI_nlt c (by omega)
      · refine xs_same_trial (s + p) (6 * j) l (by omega) (by omega) (fun h => ?_) (fun h => ?_) (nI_add s p) (nu_6 j) ec
        · exact br_f (by decide) (hy p c h hb)
        · exact br_t rfl (nm_r (nI_1 p) (ih (p + 1) (by omega) (lt_s hb h)))
    · refine ⟨vp_in_nI hj (by omega), br_t ?_ (hno (fun b h => hb b (by omega)))⟩
      rw [ec, nI_add]
      exact nI_lt (by omega) (by omega)
theorem xs_place_trial {post : Int32 → Prop} {fc tl jl : Int32} {aS aL aO aT aJ : Nat → Int32} {x1 x2 x3 : Int32} (s n j l : Nat) (hj : j < 5) (hl : aL j = nI l) (hl6 : l ≤ 6) (hn : s + n ≤ 30) (hy : ∀ p, p + l ≤ n → tx_St aT aS s j l p → (∀ b, b < p → ¬ tx_St aT aS s j l b) → post (nI p)) (hno : (∀ b, b + l ≤ n → ¬ tx_St aT aS s j l b) → post (-1)) (e1 : x1 = nI s) (e2 : x2 = nI n) (e3 : x3 = nI j) : wpX_placeIn__trial post (fc, tl, jl, aS, aL, aO, aT, aJ) x1 x2 x3 := by
  subst e1 e2 e3
  exact ⟨n + 1 + 1, xs_place_trial_l hj hl hl6 hn hy hno (n + 1) 0 (by omega) (fun b hb => absurd hb (Nat.not_lt_zero b))⟩
theorem xs_over_trial_l {post : Int32 → Prop} {fc tl jl : Int32} {aS aL aO aT aJ : Nat → Int32} {s n j l : Nat} (hj : j < 5) (hl6 : l ≤ 6) (hn : s + n ≤ 30) (hy : ∀ k, k ≤ n → k ≤ l → tx_Ov aT aS s n j k → (∀ q, k < q → q ≤ n → q ≤ l → ¬ tx_Ov aT aS s n j q) → post (nI k)) : ∀ k, k ≤ n → k ≤ l → (∀ q, k < q → q ≤ n → q ≤ l → ¬ tx_Ov aT aS s n j q) → wX_overlapWith__trial_28 post (nI s) (nI n) (nI j) fc tl jl aS aL aO aT aJ (k + 1) (nI k) := by
  intro k
  induction k with
  | zero =>
    intro h1 h2 hq
    exact br_t (by decide) (hy 0 h1 h2 (fun x hx => absurd hx (Nat.not_lt_zero x)) hq)
  | succ k ih =>
    intro h1 h2 hq
    refine br_f (nI_nle (by omega) (by omega)) ?_
    refine xs_same_trial (s + n - (k + 1)) (6 * j) (k + 1) (by omega) (by omega) (fun h => ?_) (fun h => ?_) (by rw [nI_add, pk_sub (by omega)]) (nu_6 j) rfl
    · exact br_f (by decide) (hy (k + 1) h1 h2 h hq)
    · refine br_t rfl (nm_r (pk_m1 k) (ih (by omega) (by omega) (fun q q1 q2 q3 => ?_)))
      by_cases c : q = k + 1
      · subst c; exact h
      · exact hq q (by omega) q2 q3
theorem xs_over_trial {post : Int32 → Prop} {fc tl jl : Int32} {aS aL aO aT aJ : Nat → Int32} {x1 x2 x3 : Int32} (s n j l : Nat) (hj : j < 5) (hl : aL j = nI l) (hl6 : l ≤ 6) (hn : s + n ≤ 30) (hy : ∀ k, k ≤ n → k ≤ l → tx_Ov aT aS s n j k → (∀ q, k < q → q ≤ n → q ≤ l → ¬ tx_Ov aT aS s n j q) → post (nI k)) (e1 : x1 = nI s) (e2 : x2 = nI n) (e3 : x3 = nI j) : wpX_overlapWith__trial post (fc, tl, jl, aS, aL, aO, aT, aJ) x1 x2 x3 := by
  subst e1 e2 e3
  have ec : aL (nI j).toNatClampNeg = nI l := by rw [nI_clamp (by omega)]; exact hl
  refine ⟨vp_in_nI hj (by omega), pk_le l n (fun h => ⟨vp_in_nI hj (by omega), nm_r ec ?_⟩) (fun h => ?_) ec rfl⟩
  · exact ⟨l + 1, xs_over_trial_l hj hl6 hn hy l h (Nat.le_refl _) (fun q q1 q2 q3 => by omega)⟩
  · exact ⟨n + 1, xs_over_trial_l hj hl6 hn hy n (Nat.le_refl _) (by omega) (fun q q1 q2 q3 => by omega)⟩
theorem xs_same_join_l {post : Int32 → Prop} {fc tl jl : Int32} {aS aL aO aT aJ : Nat → Int32} {p q n : Nat} (h1 : p + n ≤ 30) (h2 : q + n ≤ 30) (hy : (∀ x, x < n → aJ (p + x) = aS (q + x)) → post 1) (hn : ∀ x, x < n → ¬ aJ (p + x) = aS (q + x) → post 0) : ∀ d i, i + d = n → (∀ x, x < i → aJ (p + x) = aS (q + x)) → wX_sameSymbols__join_3 post (nI p) (nI q) (nI n) fc tl jl aS aL aO aT aJ (d + 1) (nI i) := by
  intro d
  induction d with
  | zero =>
    intro i hi hp
    have e : i = n := by omega
    subst e
    exact br_t (nI_le (Nat.le_refl _) (by omega)) (hy hp)
  | succ d ih =>
    intro i hi hp
    have e1 : nI p + nI i = nI (p + i) := nI_add p i
    have e2 : nI q + nI i = nI (q + i) := nI_add q i
    refine br_f (nI_ge (by omega) (by omega)) ⟨pk_in (p + i) 30 (by omega) e1, pk_in (q + i) 30 (by omega) e2, br_c (fun h => nm_r (nI_1 i) ?_) (fun h => ?_)⟩
    · rw [pk_cl (p + i) e1, pk_cl (q + i) e2] at h
      exact ih (i + 1) (by omega) (lt_s hp h)
    · rw [pk_cl (p + i) e1, pk_cl (q + i) e2] at h
      exact hn i (by omega) h
theorem xs_same_join {post : Int32 → Prop} {fc tl jl : Int32} {aS aL aO aT aJ : Nat → Int32} {x1 x2 x3 : Int32} (p q n : Nat) (h1 : p + n ≤ 30) (h2 : q + n ≤ 30) (hy : (∀ x, x < n → aJ (p + x) = aS (q + x)) → post 1) (hn : ¬ (∀ x, x < n → aJ (p + x) = aS (q + x)) → post 0) (e1 : x1 = nI p) (e2 : x2 = nI q) (e3 : x3 = nI n) : wpX_sameSymbols__join post (fc, tl, jl, aS, aL, aO, aT, aJ) x1 x2 x3 := by
  subst e1 e2 e3
  exact ⟨n + 1, xs_same_join_l h1 h2 hy (fun x hx h => hn (fun z => h (z x hx))) n 0 (by omega) (fun x hx => absurd hx (Nat.not_lt_zero x))⟩
theorem xs_place_join_l {post : Int32 → Prop} {fc tl jl : Int32} {aS aL aO aT aJ : Nat → Int32} {s n j l : Nat} (hj : j < 5) (hl : aL j = nI l) (hl6 : l ≤ 6) (hn : s + n ≤ 30) (hy : ∀ p, p + l ≤ n → tx_St aJ aS s j l p → (∀ b, b < p → ¬ tx_St aJ aS s j l b) → post (nI p)) (hno : (∀ b, b + l ≤ n → ¬ tx_St aJ aS s j l b) → post (-1)) : ∀ d p, p + d = n + 1 → (∀ b, b < p → ¬ tx_St aJ aS s j l b) → wX_placeIn__join_3 post (nI s) (nI n) (nI j) fc tl jl aS aL aO aT aJ (d + 1) (nI p) := by
  intro d
  have ec : aL (nI j).toNatClampNeg = nI l := by rw [nI_clamp (by omega)]; exact hl
  induction d with
  | zero =>
    intro p hp hb
    refine ⟨vp_in_nI hj (by omega), br_t ?_ (hno (fun b h => hb b (by omega)))⟩
    rw [ec, nI_add]
    exact nI_lt (by omega) (by omega)
  | succ d ih =>
    intro p hp hb
    by_cases c : p + l ≤ n
    · refine ⟨vp_in_nI hj (by omega), br_f ?_ ⟨vp_in_nI hj (by omega), ?_⟩⟩
      · rw [ec, nI_add]
        exact nI_nlt c (by omega)
      · refine xs_same_join (s + p) (6 * j) l (by omega) (by omega) (fun h => ?_) (fun h => ?_) (nI_add s p) (nu_6 j) ec
        · exact br_f (by decide) (hy p c h hb)
        · exact br_t rfl (nm_r (nI_1 p) (ih (p + 1) (by omega) (lt_s hb h)))
    · refine ⟨vp_in_nI hj (by omega), br_t ?_ (hno (fun b h => hb b (by omega)))⟩
      rw [ec, nI_add]
      exact nI_lt (by omega) (by omega)
theorem xs_place_join {post : Int32 → Prop} {fc tl jl : Int32} {aS aL aO aT aJ : Nat → Int32} {x1 x2 x3 : Int32} (s n j l : Nat) (hj : j < 5) (hl : aL j = nI l) (hl6 : l ≤ 6) (hn : s + n ≤ 30) (hy : ∀ p, p + l ≤ n → tx_St aJ aS s j l p → (∀ b, b < p → ¬ tx_St aJ aS s j l b) → post (nI p)) (hno : (∀ b, b + l ≤ n → ¬ tx_St aJ aS s j l b) → post (-1)) (e1 : x1 = nI s) (e2 : x2 = nI n) (e3 : x3 = nI j) : wpX_placeIn__join post (fc, tl, jl, aS, aL, aO, aT, aJ) x1 x2 x3 := by
  subst e1 e2 e3
  exact ⟨n + 1 + 1, xs_place_join_l hj hl hl6 hn hy hno (n + 1) 0 (by omega) (fun b hb => absurd hb (Nat.not_lt_zero b))⟩
