/-! the joiner's trial: better, keep, extend, orders -/
def xt_Better (f : Nat → Nat) (t : Nat) (g : Nat → Nat) (m : Nat) : Prop := t < m ∨ (t = m ∧ ∃ d, d < t ∧ (∀ x, x < d → f x = g x) ∧ f d < g d)
theorem xt_better_l {post : Int32 → Prop} {fc : Int32} {aS aL aO aT aJ : Nat → Int32} {f g : Nat → Nat} {t : Nat} (ht : t ≤ 30) (hf : ∀ x, x < t → aT x = nI (f x) ∧ f x < 4) (hg : ∀ x, x < t → aJ x = nI (g x) ∧ g x < 4) (hy : xt_Better f t g t → post 1) (hn : ¬ xt_Better f t g t → post 0) : ∀ d i, i + d = t → (∀ x, x < i → f x = g x) → wX_trialIsBetter_30 post fc (nI t) (nI t) aS aL aO aT aJ (d + 1) (nI i) := by
  intro d
  induction d with
  | zero =>
    intro i hi hp
    refine br_t (nI_le (by omega) (by omega)) (hn ?_)
    rintro (h | ⟨_, d, h1, h2, h3⟩)
    · omega
    · have := hp d (by omega)
      omega
  | succ d ih =>
    intro i hi hp
    obtain ⟨f1, f2⟩ := hf i (by omega)
    obtain ⟨g1, g2⟩ := hg i (by omega)
    have ef : aT (nI i).toNatClampNeg = nI (f i) := by rw [nI_clamp (by omega)]; exact f1
    have eg : aJ (nI i).toNatClampNeg = nI (g i) := by rw [nI_clamp (by omega)]; exact g1
    have hv : vp_in (nI i) 30 := vp_in_nI (by omega) (by omega)
    refine br_f (nI_ge (by omega) (by omega)) ⟨hv, hv, pk_eq (f i) (g i) (fun h => nm_r (nI_1 i) (ih (i + 1) (by omega) (lt_s hp h))) (fun h => ⟨hv, hv, pk_le (g i) (f i) (fun h2 => hn ?_) (fun h2 => hy ?_) eg ef⟩) ef eg⟩
    · rintro (h3 | ⟨_, d, h3, h4, h5⟩)
      · omega
      · by_cases c1 : d < i
        · have := hp d c1
          omega
        · by_cases c2 : i < d
          · exact h (h4 i c2)
          · have : d = i := by omega
            subst this
            omega
    · exact Or.inr ⟨rfl, i, by omega, hp, h2⟩
theorem xt_better {post : Int32 → Prop} {fc : Int32} {aS aL aO aT aJ : Nat → Int32} {f g : Nat → Nat} {t m : Nat} (ht : t ≤ 30) (hm : m ≤ 30) (hf : ∀ x, x < t → aT x = nI (f x) ∧ f x < 4) (hg : ∀ x, x < m → aJ x = nI (g x) ∧ g x < 4) (hy : xt_Better f t g m → post 1) (hn : ¬ xt_Better f t g m → post 0) : wpX_trialIsBetter post (fc, nI t, nI m, aS, aL, aO, aT, aJ) := by
  refine pk_eq t m (fun h => ?_) (fun h => pk_le m t (fun h2 => hn ?_) (fun h2 => hy (Or.inl h2)))
  · subst h
    exact ⟨t + 1, xt_better_l ht hf hg hy hn t 0 (by omega) (fun x hx => absurd hx (Nat.not_lt_zero x))⟩
  · rintro (h3 | ⟨h3, _⟩)
    · omega
    · exact h h3
theorem xt_keep_l {post : SX → Prop} {fc jl : Int32} {aS aL aO aT : Nat → Int32} {t : Nat} (ht : t ≤ 30) (hp : ∀ aJ, (∀ x, x < t → aJ x = aT x) → post (fc, nI t, nI t, aS, aL, aO, aT, aJ)) : ∀ d i aJ, i + d = t → (∀ x, x < i → aJ x = aT x) → wX_keepTrial_2 post fc (nI t) jl (d + 1) (nI i) aS aL aO aT aJ := by
  intro d
  induction d with
  | zero =>
    intro i aJ hi h
    have e : i = t := by omega
    subst e
    exact br_t (nI_le (Nat.le_refl _) (by omega)) (hp aJ h)
  | succ d ih =>
    intro i aJ hi h
    have hv : vp_in (nI i) 30 := vp_in_nI (by omega) (by omega)
    refine br_f (nI_ge (by omega) (by omega)) ⟨hv, hv, nm_e (nm_r (nI_1 i) (ih (i + 1) _ (by omega) ?_))⟩
    rw [nI_clamp (by omega)]
    intro x hx
    by_cases c : x = i
    · subst c; exact pk_us
    · rw [pk_un c]; exact h x (by omega)
theorem xt_keep {post : SX → Prop} {fc jl : Int32} {aS aL aO aT aJ : Nat → Int32} {t : Nat} (ht : t ≤ 30) (hp : ∀ aJ, (∀ x, x < t → aJ x = aT x) → post (fc, nI t, nI t, aS, aL, aO, aT, aJ)) : wpX_keepTrial post (fc, nI t, jl, aS, aL, aO, aT, aJ) :=
  ⟨t + 1, xt_keep_l ht hp t 0 aJ (by omega) (fun x hx => absurd hx (Nat.not_lt_zero x))⟩
theorem xt_ext_l {post : SX → Prop} {fc jl : Int32} {aS aL aO aT aJ : Nat → Int32} {r l t s : Nat} (hr : r < 5) (hl : aL r = nI l) (hl6 : l ≤ 6) (hs : s ≤ l) (ht : t + (l - s) ≤ 30) (hp : ∀ a, (∀ x, x < t → a x = aT x) → (∀ y, y < l - s → a (t + y) = aS (6 * r + (s + y))) → post (fc, nI (t + (l - s)), jl, aS, aL, aO, a, aJ)) : ∀ d i a, i + d = l - s → (∀ x, x < t → a x = aT x) → (∀ y, y < i → a (t + y) = aS (6 * r + (s + y))) → wX_extendTrial_2 post (nI r) fc jl (d + 1) (nI (s + i)) (nI (t + i)) aS aL aO a aJ := by
  have ec : aL (nI r).toNatClampNeg = nI l := by rw [nI_clamp (by omega)]; exact hl
  intro d
  induction d with
  | zero =>
    intro i a hi h1 h2
    have e : i = l - s := by omega
    subst e
    refine ⟨vp_in_nI hr (by omega), br_t ?_ (hp a h1 h2)⟩
    rw [ec]
    exact nI_le (by omega) (by omega)
  | succ d ih =>
    intro i a hi h1 h2
    have e1 : nI r * 6 + nI (s + i) = nI (6 * r + (s + i)) := by rw [nu_6, nI_add]
    refine ⟨vp_in_nI hr (by omega), br_f ?_ ⟨pk_in (6 * r + (s + i)) 30 (by omega) e1, vp_in_nI (by omega) (by omega), nm_e (nm_r (nI_1 (t + i)) (nm_r (nI_1 (s + i)) (ih (i + 1) _ (by omega) ?_ ?_)))⟩⟩
    · rw [ec]
      exact nI_ge (by omega) (by omega)
    · rw [nI_clamp (by omega)]
      intro x hx
      rw [pk_un (by omega)]
      exact h1 x hx
    · rw [nI_clamp (by omega), pk_cl _ e1]
      intro y hy
      by_cases c : y = i
      · subst c; exact pk_us
      · rw [pk_un (by omega)]; exact h2 y (by omega)
theorem xt_ext {post : SX → Prop} {fc jl : Int32} {aS aL aO aT aJ : Nat → Int32} {r l t s : Nat} (hr : r < 5) (hl : aL r = nI l) (hl6 : l ≤ 6) (hs : s ≤ l) (ht : t + (l - s) ≤ 30) (hp : ∀ a, (∀ x, x < t → a x = aT x) → (∀ y, y < l - s → a (t + y) = aS (6 * r + (s + y))) → post (fc, nI (t + (l - s)), jl, aS, aL, aO, a, aJ)) : wpX_extendTrial post (fc, nI t, jl, aS, aL, aO, aT, aJ) (nI r) (nI s) :=
  ⟨l - s + 1, xt_ext_l hr hl hl6 hs ht hp (l - s) 0 aT (by omega) (fun _ _ => rfl) (fun x hx => absurd hx (Nat.not_lt_zero x))⟩
theorem xo_2 {post : SX → Prop} {fc tl jl : Int32} {aS aL aT aJ : Nat → Int32} : ∀ (d p rest : Nat) (o : Nat → Nat) (aO : Nat → Int32), d + p = 5 → rest < 2 ^ 31 → (∀ x, x < 5 → aO x = nI (o x)) → (∀ a, (∀ x, x < 5 → a x = nI (so_run d p rest o x)) → post (fc, tl, jl, aS, aL, a, aT, aJ)) → wX_setOrder_24 post fc tl jl (d + 1) (nI rest) (nI p) aS aL aO aT aJ := by
  intro d
  induction d with
  | zero =>
    intro p rest o aO h hr ho hp
    exact br_t (nI_le (a := 5) (by omega) (by omega)) (hp aO ho)
  | succ d ih =>
    intro p rest o aO h hr ho hp
    have hm : rest % (d + 1) < d + 1 := Nat.mod_lt _ (by omega)
    have e5 : (5 : Int32) - nI p = nI (d + 1) := (pk_sub (a := 5) (by omega)).trans (congrArg nI (by omega))
    have ne : ¬ nI (d + 1) = 0 := nI_ne0 (by omega) (by omega)
    have e6 : nI p + (nI rest - nI rest / nI (d + 1) * nI (d + 1)) = nI (p + rest % (d + 1)) := by
      rw [pk_rem hr (by omega) (by omega), nI_add]
    have hv : vp_in (nI (p + rest % (d + 1))) 5 := vp_in_nI (by omega) (by omega)
    have hvp : vp_in (nI p) 5 := vp_in_nI (by omega) (by omega)
    refine br_f (nI_ge (b := 5) (by omega) (by decide)) (nm_r e5 ⟨ne, nm_r e6 ⟨ne, nm_r (pk_div hr (by omega) (by omega)) ⟨hv, nm_e ⟨hvp, hv, nm_e ⟨hvp, nm_e (nm_r (nI_1 p) ?_)⟩⟩⟩⟩⟩)
    refine ih (p + 1) (rest / (d + 1)) (so_sw o p (p + rest % (d + 1))) _ (by omega) (Nat.lt_of_le_of_lt (Nat.div_le_self _ _) hr) ?_ hp
    rw [nI_clamp (by omega), nI_clamp (by omega)]
    intro x hx
    unfold so_sw
    by_cases c1 : x = p
    · rw [if_pos c1, c1, pk_us]
      exact ho _ (by omega)
    · rw [if_neg c1, pk_un c1]
      by_cases c2 : x = p + rest % (d + 1)
      · rw [if_pos c2, c2, pk_us]
        exact ho _ (by omega)
      · rw [if_neg c2, pk_un c2]
        exact ho _ hx
theorem xo_1 {post : SX → Prop} {fc tl jl : Int32} {aS aL aT aJ : Nat → Int32} {code : Nat} (hc : code < 120) (hp : ∀ a, (∀ x, x < 5 → a x = nI (so_run 5 0 code (fun x => x) x)) → post (fc, tl, jl, aS, aL, a, aT, aJ)) : ∀ (d p : Nat) (aO : Nat → Int32), p + d = 5 → (∀ x, x < p → aO x = nI x) → wX_setOrder_2 post (nI code) fc tl jl (d + 1) (nI p) aS aL aO aT aJ := by
  intro d
  induction d with
  | zero =>
    intro p aO h ho
    have e : p = 5 := by omega
    subst e
    exact br_t (nI_le (a := 5) (by omega) (by omega)) ⟨5 + 1, xo_2 5 0 code (fun x => x) aO rfl (by omega) ho hp⟩
  | succ d ih =>
    intro p aO h ho
    refine br_f (nI_ge (b := 5) (by omega) (by decide)) ⟨vp_in_nI (by omega) (by omega), nm_e (nm_r (nI_1 p) (ih (p + 1) _ (by omega) ?_))⟩
    rw [nI_clamp (by omega)]
    intro x hx
    by_cases c : x = p
    · subst c; exact pk_us
    · rw [pk_un c]; exact ho x (by omega)
theorem xo_set {post : SX → Prop} {fc tl jl : Int32} {aS aL aO aT aJ : Nat → Int32} {code : Nat} (hc : code < 120) (hp : ∀ a, (∀ x, x < 5 → a x = nI (so_run 5 0 code (fun x => x) x)) → post (fc, tl, jl, aS, aL, a, aT, aJ)) : wpX_setOrder post (fc, tl, jl, aS, aL, aO, aT, aJ) (nI code) :=
  ⟨5 + 1, xo_1 hc hp 5 0 aO rfl (fun x hx => absurd hx (Nat.not_lt_zero x))⟩
