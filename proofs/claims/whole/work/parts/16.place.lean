/-! place and hasReverse -/
theorem yt_37 {post : Int32 → Prop} {J : Int32 → Int32 → Prop} {fc x3 z0 b : Int32} {aZ aS aE aN aD aJ aW : Nat → Int32} {i p x z : Nat} (hp : p + x < 31) (hz : 6 * i + z < 30) (hb : b = 0 ∨ b = 1) (h0 : b = 0 → J 0 (nI (x + 1))) (h1 : b = 1 → aJ (p + x) = aS (6 * i + z) → J 1 (nI (x + 1))) (h2 : b = 1 → ¬ aJ (p + x) = aS (6 * i + z) → J 0 (nI (x + 1))) (ez : z0 = nI z) : wY_stands_37 post J (nI i) (nI p) x3 b (nI x) z0 fc aZ aS aE aN aD aJ aW := by
  subst ez
  rcases hb with rfl | rfl
  · exact br_t rfl (nm_r (nI_1 x) (h0 rfl))
  · have e1 : nI p + nI x = nI (p + x) := nI_add p x
    have e2 : 6 * nI i + nI z = nI (6 * i + z) := by rw [nu_6', nI_add]
    refine br_f (by decide) ⟨pk_in _ 31 hp e1, pk_in _ 30 hz e2, br_c (fun q => nm_r (nI_1 x) (h1 rfl ?_)) (fun q => nm_r (nI_1 x) (h2 rfl ?_))⟩
    · rw [pk_cl _ e1, pk_cl _ e2] at q
      exact q
    · rw [pk_cl _ e1, pk_cl _ e2] at q
      exact q
theorem yt_l {post : Int32 → Prop} {fc x3 : Int32} {aZ aS aE aN aD aJ aW : Nat → Int32} {i p l : Nat} {tf : Nat → Nat} (hi : i < 5) (hl : aZ i = nI l) (hl6 : l ≤ 6) (hp : p + l ≤ 30) (ht : (x3 = 0 ∧ ∀ x, x < l → tf x = x) ∨ (x3 = 1 ∧ ∀ x, x < l → tf x = l - 1 - x)) (hy : (∀ x, x < l → aJ (p + x) = aS (6 * i + tf x)) → post 1) (hn : ¬ (∀ x, x < l → aJ (p + x) = aS (6 * i + tf x)) → post 0) : ∀ d x b, x + d = l → ((b = 0 ∧ ¬ ∀ y, y < l → aJ (p + y) = aS (6 * i + tf y)) ∨ (b = 1 ∧ ∀ y, y < x → aJ (p + y) = aS (6 * i + tf y))) → wY_stands_6 post (nI i) (nI p) x3 fc aZ aS aE aN aD aJ aW (d + 1) b (nI x) := by
  have ec : aZ (nI i).toNatClampNeg = nI l := by rw [nI_clamp (by omega)]; exact hl
  have hv : vp_in (nI i) 5 := vp_in_nI hi (by omega)
  intro d
  induction d with
  | zero =>
    intro x b h hb
    have ex : x = l := by omega
    subst ex
    refine ⟨hv, br_t (by rw [ec]; exact nI_le (Nat.le_refl _) (by omega)) ?_⟩
    rcases hb with ⟨rfl, hb⟩ | ⟨rfl, hb⟩
    · exact ⟨nb_0, hn hb⟩
    · exact ⟨nb_1, hy hb⟩
  | succ d ih =>
    intro x b h hb
    have hb' : b = 0 ∨ b = 1 := by
      rcases hb with ⟨e, _⟩ | ⟨e, _⟩
      · exact Or.inl e
      · exact Or.inr e
    have k0 : b = 0 → wY_stands_6 post (nI i) (nI p) x3 fc aZ aS aE aN aD aJ aW (d + 1) 0 (nI (x + 1)) := by
      intro e
      rcases hb with ⟨_, hb⟩ | ⟨e', _⟩
      · exact ih (x + 1) 0 (by omega) (Or.inl ⟨rfl, hb⟩)
      · rw [e] at e'
        exact absurd e' (by decide)
    have k1 : b = 1 → aJ (p + x) = aS (6 * i + tf x) → wY_stands_6 post (nI i) (nI p) x3 fc aZ aS aE aN aD aJ aW (d + 1) 1 (nI (x + 1)) := by
      intro e q
      rcases hb with ⟨e', _⟩ | ⟨_, hb⟩
      · rw [e] at e'
        exact absurd e' (by decide)
      · exact ih (x + 1) 1 (by omega) (Or.inr ⟨rfl, lt_s hb q⟩)
    have k2 : b = 1 → ¬ aJ (p + x) = aS (6 * i + tf x) → wY_stands_6 post (nI i) (nI p) x3 fc aZ aS aE aN aD aJ aW (d + 1) 0 (nI (x + 1)) := fun _ q => ih (x + 1) 0 (by omega) (Or.inl ⟨rfl, fun w => q (w x (by omega))⟩)
    refine ⟨hv, br_f (by rw [ec]; exact nI_ge (by omega) (by omega)) ?_⟩
    rcases ht with ⟨e3, ht⟩ | ⟨e3, ht⟩
    · have et := ht x (by omega)
      exact br_t e3 (yt_37 (z := tf x) (by omega) (by omega) hb' k0 k1 k2 (by rw [et]))
    · have et := ht x (by omega)
      refine br_f (by rw [e3]; decide) ⟨hv, yt_37 (z := tf x) (by omega) (by omega) hb' k0 k1 k2 ?_⟩
      rw [ec, show (1 : Int32) = nI 1 from rfl, pk_sub (by omega), pk_sub (by omega), et]
theorem yt_stands {post : Int32 → Prop} {fc x3 : Int32} {aZ aS aE aN aD aJ aW : Nat → Int32} {i p l : Nat} (tf : Nat → Nat) (hi : i < 5) (hl : aZ i = nI l) (hl6 : l ≤ 6) (hp : p + l ≤ 30) (ht : (x3 = 0 ∧ ∀ x, x < l → tf x = x) ∨ (x3 = 1 ∧ ∀ x, x < l → tf x = l - 1 - x)) (hy : (∀ x, x < l → aJ (p + x) = aS (6 * i + tf x)) → post 1) (hn : ¬ (∀ x, x < l → aJ (p + x) = aS (6 * i + tf x)) → post 0) : wpY_stands post (fc, aZ, aS, aE, aN, aD, aJ, aW) (nI i) (nI p) x3 :=
  ⟨l + 1, yt_l hi hl hl6 hp ht hy hn l 0 1 (by omega) (Or.inr ⟨rfl, fun y hy => absurd hy (Nat.not_lt_zero y)⟩)⟩
theorem yp_l {post : Int32 → SY → Prop} {aZ aS aE aN aD aJ aW : Nat → Int32} {c i n l : Nat} (hc : c ≤ 5) (hi : i < c) (hl : aZ i = nI l) (hl6 : l ≤ 6) (hn : n ≤ 30) (hy : ∀ p, p + l ≤ n → (∀ x, x < l → aJ (p + x) = aS (6 * i + x)) → (∀ b, b < p → ¬ ∀ x, x < l → aJ (b + x) = aS (6 * i + x)) → post (nI p) (nI c, aZ, aS, aE, aN, aD, aJ, aW)) (hno : (∀ b, b + l ≤ n → ¬ ∀ x, x < l → aJ (b + x) = aS (6 * i + x)) → post (-1) (nI c, aZ, aS, aE, aN, aD, aJ, aW)) : ∀ d p, p + d = n + 1 → (∀ b, b < p → ¬ ∀ x, x < l → aJ (b + x) = aS (6 * i + x)) → wY_place_7 post (nI i) (nI n) (nI c) aZ aS aE aN aD aJ aW (d + 1) (nI p) := by
  have ec : aZ (nI i).toNatClampNeg = nI l := by rw [nI_clamp (by omega)]; exact hl
  have hv : vp_in (nI i) 5 := vp_in_nI (by omega) (by omega)
  intro d
  induction d with
  | zero =>
    intro p hp hb
    rw [wY_place_7]
    refine yr_yes hc hi ?_
    refine br_f (by decide) ⟨hv, br_t ?_ (hno (fun b h => hb b (by omega)))⟩
    rw [ec, nI_add]
    exact nI_lt (by omega) (by omega)
  | succ d ih =>
    intro p hp hb
    rw [wY_place_7]
    refine yr_yes hc hi ?_
    by_cases cp : p + l ≤ n
    · refine br_f (by decide) ⟨hv, br_f ?_ (yt_stands (fun x => x) (by omega) hl hl6 (by omega) (Or.inl ⟨rfl, fun _ _ => rfl⟩) (fun h => br_f (by decide) (hy p cp h hb)) (fun h => br_t rfl (nm_r (nI_1 p) (ih (p + 1) (by omega) (lt_s hb h)))))⟩
      rw [ec, nI_add]
      exact nI_nlt cp (by omega)
    · refine br_f (by decide) ⟨hv, br_t ?_ (hno (fun b h => hb b (by omega)))⟩
      rw [ec, nI_add]
      exact nI_lt (by omega) (by omega)
theorem yp_no {post : Int32 → SY → Prop} {aZ aS aE aN aD aJ aW : Nat → Int32} {c : Nat} {i x2 x3 : Int32} (hi : i < 0 ∨ nI c ≤ i) (h : post (-1) (nI c, aZ, aS, aE, aN, aD, aJ, aW)) : wY_place_7 post i x2 (nI c) aZ aS aE aN aD aJ aW (0 + 1) x3 := by
  rw [wY_place_7]
  refine yr_no hi ?_
  exact br_t rfl h
theorem tr_eq {aJ aS : Nat → Int32} {S : Nat → Nat} {sy : Nat → Nat → Nat} {m i l : Nat} (hJ : ∀ x, x < m → aJ x = nI (S x) ∧ S x < 4) (hs : ∀ x, x < l → aS (6 * i + x) = nI (sy i x) ∧ sy i x < 4) (tf : Nat → Nat) (ht : ∀ x, x < l → tf x < l) {p : Nat} (hp : p + l ≤ m) : (∀ x, x < l → aJ (p + x) = aS (6 * i + tf x)) ↔ ∀ x, x < l → S (p + x) = sy i (tf x) := by
  constructor
  · intro h x hx
    have := h x hx
    obtain ⟨a1, a2⟩ := hJ (p + x) (by omega)
    obtain ⟨b1, b2⟩ := hs (tf x) (ht x hx)
    rw [a1, b1, nI_eq (by omega) (by omega)] at this
    exact this
  · intro h x hx
    rw [(hJ (p + x) (by omega)).1, (hs (tf x) (ht x hx)).1, h x hx]
theorem i_vc_place {k : Nat} {u : SX} {v : SY} (I : i_Rel k u v) (hk : k + 3 ≤ 1536) (v1 : Int32) : wpX_place (fun r u' => wpY_place (fun r' v' => r' = r ∧ i_Rel (k + 3) u' v') v v1) u v1 := by
  obtain ⟨c, L, sy, tl, jl, aS, aL, aO, aT, aJ, aZ, bS, aE, aN, aD, bJ, aW, rfl, rfl, P, Q⟩ := rl_get I
  have hc := P.2.1
  unfold wpX_place
  dsimp only
  rcases ix_2 v1 hc with hi | ⟨i, hi, rfl⟩
  · refine xr_no hi ?_
    refine br_t rfl ?_
    unfold wpY_place
    dsimp only
    exact yw_write Q (fun _ _ _ _ _ g n n1 n2 n3 => ⟨0 + 1, yp_no hi ⟨rfl, rl_mk P Q⟩⟩)
  · obtain ⟨l1, l2⟩ := P.2.2.1 i hi
    obtain ⟨z1, _⟩ := Q.2.2.1 i hi
    refine xr_yes hc hi ?_
    refine br_f (by decide) (xf_all P (fun tl aO aT aJ S m m1 m2 m3 => ?_))
    dsimp only
    have key : ∀ p, p + L i ≤ m → (tx_St aJ aS 0 i (L i) p ↔ ∀ x, x < L i → S (p + x) = sy i x) := by
      intro p hp
      unfold tx_St
      rw [Nat.zero_add]
      exact tr_eq m3 (P.2.2.2 i hi) (fun x => x) (fun _ h => h) hp
    have keyY : ∀ (cJ : Nat → Int32) (g : Nat → Nat), (∀ x, x < m → S x = g x) → (∀ x, x < m → cJ x = nI (g x) ∧ g x < 4) → ∀ p, p + L i ≤ m → ((∀ x, x < L i → cJ (p + x) = bS (6 * i + x)) ↔ ∀ x, x < L i → S (p + x) = sy i x) := by
      intro cJ g hg hJ p hp
      exact tr_eq (fun x hx => by rw [hg x hx]; exact hJ x hx) (Q.2.2.2 i hi) (fun x => x) (fun _ h => h) hp
    refine xs_place_join 0 m i (L i) (by omega) l1 l2 (by omega) (fun p p1 p2 p3 => ?_) (fun hno => ?_) rfl rfl rfl
    · unfold wpY_place
      dsimp only
      refine yw_write Q (fun _ _ _ cJ _ g n n1 n2 n3 => ?_)
      obtain ⟨e, he⟩ := st_first_unique m2 n2
      subst e
      have kY := keyY cJ g he n3
      refine ⟨m + 1 + 1, yp_l hc hi z1 l2 m1 (fun q q1 q2 q3 => ⟨congrArg nI ?_, rl_mk P Q⟩) (fun hno => absurd ((kY p p1).mpr ((key p p1).mp p2)) (hno p p1)) (m + 1) 0 (by omega) (fun b hb => absurd hb (Nat.not_lt_zero b))⟩
      by_cases c1 : p < q
      · exact absurd ((kY p p1).mpr ((key p p1).mp p2)) (q3 p c1)
      · by_cases c2 : q < p
        · exact absurd ((key q q1).mpr ((kY q q1).mp q2)) (p3 q c2)
        · omega
    · unfold wpY_place
      dsimp only
      refine yw_write Q (fun _ _ _ cJ _ g n n1 n2 n3 => ?_)
      obtain ⟨e, he⟩ := st_first_unique m2 n2
      subst e
      have kY := keyY cJ g he n3
      exact ⟨m + 1 + 1, yp_l hc hi z1 l2 m1 (fun q q1 q2 q3 => absurd ((key q q1).mpr ((kY q q1).mp q2)) (hno q q1)) (fun _ => ⟨rfl, rl_mk P Q⟩) (m + 1) 0 (by omega) (fun b hb => absurd hb (Nat.not_lt_zero b))⟩
theorem xv_17 {post : Int32 → Prop} {fc tl jl x3 : Int32} {aS aL aO aT aJ : Nat → Int32} {p i l : Nat} (hi : i < 5) (hl : aL i = nI l) (hl6 : l ≤ 6) (hp : p + l ≤ 30) (h3 : 0 < l → x3 = nI (6 * i + (l - 1))) (hy : (∀ x, x < l → aJ (p + x) = aS (6 * i + (l - 1 - x))) → post 1) (hn : ¬ (∀ x, x < l → aJ (p + x) = aS (6 * i + (l - 1 - x))) → post 0) : ∀ d x, x + d = l → (∀ y, y < x → aJ (p + y) = aS (6 * i + (l - 1 - y))) → wX_reverseStandsAt_17 post (nI p) (nI i) x3 fc tl jl aS aL aO aT aJ (d + 1) (nI x) := by
  have ec : aL (nI i).toNatClampNeg = nI l := by rw [nI_clamp (by omega)]; exact hl
  have hv : vp_in (nI i) 5 := vp_in_nI hi (by omega)
  intro d
  induction d with
  | zero =>
    intro x h hb
    have ex : x = l := by omega
    subst ex
    exact ⟨hv, br_t (by rw [ec]; exact nI_le (Nat.le_refl _) (by omega)) (hy hb)⟩
  | succ d ih =>
    intro x h hb
    have e1 : nI p + nI x = nI (p + x) := nI_add p x
    have e2 : x3 - nI x = nI (6 * i + (l - 1 - x)) := by
      rw [h3 (by omega), pk_sub (by omega)]
      exact congrArg nI (by omega)
    refine ⟨hv, br_f (by rw [ec]; exact nI_ge (by omega) (by omega)) ⟨pk_in _ 30 (by omega) e1, pk_in _ 30 (by omega) e2, br_c (fun q => nm_r (nI_1 x) (ih (x + 1) (by omega) (lt_s hb ?_))) (fun q => hn (fun w => ?_))⟩⟩
    · rw [pk_cl _ e1, pk_cl _ e2] at q
      exact q
    · rw [pk_cl _ e1, pk_cl _ e2] at q
      exact q (w x (by omega))
theorem xv_rev {post : Int32 → Prop} {fc tl jl : Int32} {aS aL aO aT aJ : Nat → Int32} {p i l : Nat} (hi : i < 5) (hl : aL i = nI l) (hl6 : l ≤ 6) (hp : p + l ≤ 30) (hy : (∀ x, x < l → aJ (p + x) = aS (6 * i + (l - 1 - x))) → post 1) (hn : ¬ (∀ x, x < l → aJ (p + x) = aS (6 * i + (l - 1 - x))) → post 0) : wpX_reverseStandsAt post (fc, tl, jl, aS, aL, aO, aT, aJ) (nI p) (nI i) := by
  have ec : aL (nI i).toNatClampNeg = nI l := by rw [nI_clamp (by omega)]; exact hl
  refine ⟨vp_in_nI hi (by omega), nm_e ⟨l + 1, xv_17 hi hl hl6 hp (fun h0 => ?_) hy hn l 0 (by omega) (fun y hy => absurd hy (Nat.not_lt_zero y))⟩⟩
  rw [ec, nu_6, nI_add, show (1 : Int32) = nI 1 from rfl, pk_sub (by omega)]
  exact congrArg nI (by omega)
theorem xv_18 {post : Int32 → SX → Prop} {fc tl : Int32} {aS aL aO aT aJ : Nat → Int32} {m i l : Nat} (hi : i < 5) (hl : aL i = nI l) (hl6 : l ≤ 6) (hm : m ≤ 30) (hy : ∀ p, p + l ≤ m → (∀ x, x < l → aJ (p + x) = aS (6 * i + (l - 1 - x))) → post 1 (fc, tl, nI m, aS, aL, aO, aT, aJ)) (hno : (∀ b, b + l ≤ m → ¬ ∀ x, x < l → aJ (b + x) = aS (6 * i + (l - 1 - x))) → post 0 (fc, tl, nI m, aS, aL, aO, aT, aJ)) : ∀ d p, p + d = m + 1 → (∀ b, b < p → ¬ ∀ x, x < l → aJ (b + x) = aS (6 * i + (l - 1 - x))) → wX_hasReverse_18 post (nI i) fc tl (nI m) aS aL aO aT aJ (d + 1) (nI p) := by
  have ec : aL (nI i).toNatClampNeg = nI l := by rw [nI_clamp (by omega)]; exact hl
  have hv : vp_in (nI i) 5 := vp_in_nI hi (by omega)
  intro d
  induction d with
  | zero =>
    intro p hp hb
    refine ⟨hv, br_t ?_ (hno (fun b h => hb b (by omega)))⟩
    rw [ec, nI_add]
    exact nI_lt (by omega) (by omega)
  | succ d ih =>
    intro p hp hb
    by_cases cp : p + l ≤ m
    · refine ⟨hv, br_f ?_ (xv_rev hi hl hl6 (by omega) (fun h => br_f (by decide) (hy p cp h)) (fun h => br_t rfl (nm_r (nI_1 p) (ih (p + 1) (by omega) (lt_s hb h)))))⟩
      rw [ec, nI_add]
      exact nI_nlt cp (by omega)
    · refine ⟨hv, br_t ?_ (hno (fun b h => hb b (by omega)))⟩
      rw [ec, nI_add]
      exact nI_lt (by omega) (by omega)
theorem yh_l {post : Int32 → SY → Prop} {aZ aS aE aN aD aJ aW : Nat → Int32} {c i n l : Nat} (hc : c ≤ 5) (hi : i < c) (hl : aZ i = nI l) (hl6 : l ≤ 6) (hn : n ≤ 30) (hy : ∀ p, p + l ≤ n → (∀ x, x < l → aJ (p + x) = aS (6 * i + (l - 1 - x))) → post 1 (nI c, aZ, aS, aE, aN, aD, aJ, aW)) (hno : (∀ b, b + l ≤ n → ¬ ∀ x, x < l → aJ (b + x) = aS (6 * i + (l - 1 - x))) → post 0 (nI c, aZ, aS, aE, aN, aD, aJ, aW)) : ∀ d p b, p + d = n + 1 → ((b = 0 ∧ ∀ q, q < p → ¬ ∀ x, x < l → aJ (q + x) = aS (6 * i + (l - 1 - x))) ∨ (b = 1 ∧ ∃ q, q + l ≤ n ∧ ∀ x, x < l → aJ (q + x) = aS (6 * i + (l - 1 - x)))) → wY_hasReverse_10 post (nI i) (nI n) (nI c) aZ aS aE aN aD aJ aW (d + 1) b (nI p) := by
  have ec : aZ (nI i).toNatClampNeg = nI l := by rw [nI_clamp (by omega)]; exact hl
  have hv : vp_in (nI i) 5 := vp_in_nI (by omega) (by omega)
  intro d
  induction d with
  | zero =>
    intro p b hp hb
    rw [wY_hasReverse_10]
    refine yr_yes hc hi ?_
    refine br_f (by decide) ⟨hv, br_t ?_ ?_⟩
    · rw [ec, nI_add]
      exact nI_lt (by omega) (by omega)
    · rcases hb with ⟨rfl, hb⟩ | ⟨rfl, q, q1, q2⟩
      · exact ⟨nb_0, hno (fun b h => hb b (by omega))⟩
      · exact ⟨nb_1, hy q q1 q2⟩
  | succ d ih =>
    intro p b hp hb
    rw [wY_hasReverse_10]
    refine yr_yes hc hi ?_
    by_cases cp : p + l ≤ n
    · refine br_f (by decide) ⟨hv, br_f (by rw [ec, nI_add]; exact nI_nlt cp (by omega)) ?_⟩
      rcases hb with ⟨rfl, hb⟩ | ⟨rfl, hb⟩
      · exact br_t rfl (yt_stands (fun x => l - 1 - x) (by omega) hl hl6 (by omega) (Or.inr ⟨rfl, fun _ _ => rfl⟩) (fun h => br_f (by decide) (nm_r (nI_1 p) (ih (p + 1) 1 (by omega) (Or.inr ⟨rfl, p, cp, h⟩)))) (fun h => br_t rfl (nm_r (nI_1 p) (ih (p + 1) 0 (by omega) (Or.inl ⟨rfl, lt_s hb h⟩)))))
      · exact br_f (by decide) (nm_r (nI_1 p) (ih (p + 1) 1 (by omega) (Or.inr ⟨rfl, hb⟩)))
    · refine br_f (by decide) ⟨hv, br_t (by rw [ec, nI_add]; exact nI_lt (by omega) (by omega)) ?_⟩
      rcases hb with ⟨rfl, hb⟩ | ⟨rfl, q, q1, q2⟩
      · exact ⟨nb_0, hno (fun b h => hb b (by omega))⟩
      · exact ⟨nb_1, hy q q1 q2⟩
theorem yh_no {post : Int32 → SY → Prop} {aZ aS aE aN aD aJ aW : Nat → Int32} {c : Nat} {i x2 x4 : Int32} (hi : i < 0 ∨ nI c ≤ i) (h : post 0 (nI c, aZ, aS, aE, aN, aD, aJ, aW)) : wY_hasReverse_10 post i x2 (nI c) aZ aS aE aN aD aJ aW (0 + 1) 0 x4 := by
  rw [wY_hasReverse_10]
  refine yr_no hi ?_
  exact br_t rfl ⟨nb_0, h⟩
