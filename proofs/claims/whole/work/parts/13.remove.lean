/-! remove -/
def mv_L (i : Nat) (L : Nat → Nat) : Nat → Nat := fun j => if j < i then L j else L (j + 1)
def mv_S (i : Nat) (sy : Nat → Nat → Nat) : Nat → Nat → Nat := fun j x => if j < i then sy j x else sy (j + 1) x
def mv_I (c i r : Nat) (L : Nat → Nat) (sy : Nat → Nat → Nat) (aS aL : Nat → Int32) : Prop := (∀ j, j + 1 < r → aL j = nI (mv_L i L j) ∧ ∀ x, x < mv_L i L j → aS (6 * j + x) = nI (mv_S i sy j x)) ∧ ∀ j, r ≤ j → j < c → aL j = nI (L j) ∧ ∀ x, x < L j → aS (6 * j + x) = nI (sy j x)
theorem mv_0 {c i : Nat} {L : Nat → Nat} {sy : Nat → Nat → Nat} {aS aL : Nat → Int32} (hi : i < c) (P : pc_P c L sy (nI c) aS aL) : mv_I c i (i + 1) L sy aS aL := by
  obtain ⟨_, hc, hL, hs⟩ := P
  refine ⟨fun j hj => ?_, fun j h1 h2 => ⟨(hL j h2).1, fun x hx => (hs j h2 x hx).1⟩⟩
  unfold mv_L mv_S
  rw [if_pos (show j < i by omega)]
  exact ⟨(hL j (by omega)).1, fun x hx => by rw [if_pos (show j < i by omega)]; exact (hs j (by omega) x hx).1⟩
theorem mv_step {c i r : Nat} {L : Nat → Nat} {sy : Nat → Nat → Nat} {aS aL bS bL : Nat → Int32} (hir : i < r) (hrc : r < c) (hL6 : ∀ j, j < c → L j ≤ 6) (h : mv_I c i r L sy aS aL) (hb : bL = upd aL (r - 1) (nI (L r))) (h1 : ∀ x, x < L r → bS (6 * (r - 1) + x) = aS (6 * r + x)) (h2 : ∀ y, (y < 6 * (r - 1) ∨ 6 * r ≤ y) → bS y = aS y) : mv_I c i (r + 1) L sy bS bL := by
  obtain ⟨a, b⟩ := h
  subst hb
  refine ⟨fun j hj => ?_, fun j j1 j2 => ?_⟩
  · by_cases cj : j = r - 1
    · have ej : j + 1 = r := by omega
      have eL : mv_L i L j = L r := by
        unfold mv_L
        rw [if_neg (by omega), ej]
      refine ⟨by rw [cj, pk_us, ← cj, eL], fun x hx => ?_⟩
      rw [eL] at hx
      have e := h1 x hx
      rw [← cj] at e
      rw [e, (b r (Nat.le_refl _) hrc).2 x hx]
      unfold mv_S
      rw [if_neg (by omega), ej]
    · obtain ⟨q1, q2⟩ := a j (by omega)
      refine ⟨by rw [pk_un cj]; exact q1, fun x hx => ?_⟩
      have l6 : mv_L i L j ≤ 6 := by
        unfold mv_L
        split
        · exact hL6 _ (by omega)
        · exact hL6 _ (by omega)
      rw [h2 _ (by omega)]
      exact q2 x hx
  · obtain ⟨q1, q2⟩ := b j (by omega) j2
    refine ⟨by rw [pk_un (by omega)]; exact q1, fun x hx => ?_⟩
    rw [h2 _ (by omega)]
    exact q2 x hx
theorem mv_end {c i : Nat} {L : Nat → Nat} {sy : Nat → Nat → Nat} {aS aL bS bL : Nat → Int32} (hi : i < c) (P : pc_P c L sy (nI c) aS aL) (h : mv_I c i c L sy bS bL) : pc_P (c - 1) (mv_L i L) (mv_S i sy) (nI (c - 1)) bS bL := by
  obtain ⟨_, hc, hL, hs⟩ := P
  obtain ⟨a, _⟩ := h
  refine ⟨rfl, by omega, fun j hj => ⟨(a j (by omega)).1, ?_⟩, fun j hj x hx => ⟨(a j (by omega)).2 x hx, ?_⟩⟩
  · unfold mv_L
    split
    · exact (hL _ (by omega)).2
    · exact (hL _ (by omega)).2
  · unfold mv_L at hx
    unfold mv_S
    split
    · rename_i hlt
      rw [if_pos hlt] at hx
      exact (hs _ (by omega) _ hx).2
    · rename_i hlt
      rw [if_neg hlt] at hx
      exact (hs _ (by omega) _ hx).2
theorem xm_l {post : SX → Prop} {fc tl jl : Int32} {aS aL aO aT aJ : Nat → Int32} {r l : Nat} (h1 : 1 ≤ r) (hr : r < 5) (hl : aL r = nI l) (hl6 : l ≤ 6) (hp : ∀ bS, (∀ x, x < l → bS (6 * (r - 1) + x) = aS (6 * r + x)) → (∀ y, (y < 6 * (r - 1) ∨ 6 * r ≤ y) → bS y = aS y) → post (fc, tl, jl, bS, upd aL (r - 1) (nI l), aO, aT, aJ)) : ∀ d q a, q + d = l → (∀ x, x < q → a (6 * (r - 1) + x) = aS (6 * r + x)) → (∀ y, (y < 6 * (r - 1) ∨ 6 * (r - 1) + q ≤ y) → a y = aS y) → wX_moveDown_7 post (nI r) (nI (6 * r)) fc tl jl (d + 1) (nI (6 * r + q)) a aL aO aT aJ := by
  have ec : (nI r).toNatClampNeg = r := nI_clamp (by omega)
  have el : aL (nI r).toNatClampNeg = nI l := by rw [ec]; exact hl
  have e1 : nI r - 1 = nI (r - 1) := pk_sub (b := 1) h1
  have hv : vp_in (nI r) 5 := vp_in_nI hr (by omega)
  intro d
  induction d with
  | zero =>
    intro q a hq ha hb
    refine ⟨hv, br_t ?_ ⟨hv, pk_in (r - 1) 5 (by omega) e1, nm_e ?_⟩⟩
    · rw [el, nI_add]
      exact nI_le (by omega) (by omega)
    · rw [pk_cl _ e1, el]
      exact hp a (fun x hx => ha x (by omega)) (fun y hy => hb y (by omega))
  | succ d ih =>
    intro q a hq ha hb
    have e2 : nI (6 * r + q) - 6 = nI (6 * (r - 1) + q) := (pk_sub (b := 6) (by omega)).trans (congrArg nI (by omega))
    refine ⟨hv, br_f ?_ ⟨vp_in_nI (by omega) (by omega), pk_in (6 * (r - 1) + q) 30 (by omega) e2, nm_e (nm_r (nI_1 (6 * r + q)) (ih (q + 1) _ (by omega) ?_ ?_))⟩⟩
    · rw [el, nI_add]
      exact nI_ge (by omega) (by omega)
    · rw [pk_cl _ e2, nI_clamp (by omega)]
      intro x hx
      by_cases cx : x = q
      · subst cx
        rw [pk_us]
        exact hb _ (by omega)
      · rw [pk_un (by omega)]
        exact ha x (by omega)
    · rw [pk_cl _ e2, nI_clamp (by omega)]
      intro y hy
      rw [pk_un (by omega)]
      exact hb y (by omega)
theorem xm_down {post : SX → Prop} {fc tl jl : Int32} {aS aL aO aT aJ : Nat → Int32} {r l : Nat} (h1 : 1 ≤ r) (hr : r < 5) (hl : aL r = nI l) (hl6 : l ≤ 6) (hp : ∀ bS, (∀ x, x < l → bS (6 * (r - 1) + x) = aS (6 * r + x)) → (∀ y, (y < 6 * (r - 1) ∨ 6 * r ≤ y) → bS y = aS y) → post (fc, tl, jl, bS, upd aL (r - 1) (nI l), aO, aT, aJ)) : wpX_moveDown post (fc, tl, jl, aS, aL, aO, aT, aJ) (nI r) :=
  nm_r (nu_6 r) ⟨l + 1, xm_l h1 hr hl hl6 hp l 0 aS (by omega) (fun x hx => absurd hx (Nat.not_lt_zero x)) (fun _ _ => rfl)⟩
theorem xm_rem {post : Int32 → SX → Prop} {tl jl : Int32} {aO aT aJ : Nat → Int32} {c i : Nat} {L : Nat → Nat} {sy : Nat → Nat → Nat} (hc : c ≤ 5) (hi : i < c) (hL6 : ∀ j, j < c → L j ≤ 6) (hp : ∀ aS aL, mv_I c i c L sy aS aL → post 1 (nI (c - 1), tl, jl, aS, aL, aO, aT, aJ)) : ∀ d r aS aL, r + d = c → i < r → mv_I c i r L sy aS aL → wX_remove_14 post (d + 1) (nI r) (nI c) tl jl aS aL aO aT aJ := by
  intro d
  induction d with
  | zero =>
    intro r aS aL h hr hI
    have er : r = c := by omega
    subst er
    exact br_t (nI_le (Nat.le_refl _) (by omega)) (nm_r (pk_sub (b := 1) (by omega)) (hp aS aL hI))
  | succ d ih =>
    intro r aS aL h hr hI
    refine br_f (nI_ge (by omega) (by omega)) (xm_down (by omega) (by omega) (hI.2 r (Nat.le_refl _) (by omega)).1 (hL6 r (by omega)) (fun bS h1 h2 => nm_r (nI_1 r) (ih (r + 1) bS _ (by omega) (by omega) (mv_step hr (by omega) hL6 hI rfl h1 h2))))
theorem ym_38 {post : Int32 → SY → Prop} {J : Int32 → (Nat → Int32) → (Nat → Int32) → (Nat → Int32) → (Nat → Int32) → (Nat → Int32) → (Nat → Int32) → (Nat → Int32) → Prop} {fc : Int32} {aZ aS aE aN aD aJ aW : Nat → Int32} {j : Nat} (hj : j + 1 < 5) (hp : ∀ bS, (∀ x, x < 6 → bS (6 * j + x) = aS (6 * (j + 1) + x)) → (∀ y, (y < 6 * j ∨ 6 * (j + 1) ≤ y) → bS y = aS y) → J (nI (j + 1)) aZ bS aE aN aD aJ aW) : ∀ d q a, q + d = 6 → (∀ x, x < q → a (6 * j + x) = aS (6 * (j + 1) + x)) → (∀ y, (y < 6 * j ∨ 6 * j + q ≤ y) → a y = aS y) → wY_remove_38 post J (nI j) fc (d + 1) (nI q) aZ a aE aN aD aJ aW := by
  intro d
  induction d with
  | zero =>
    intro q a hq ha hb
    have eq : q = 6 := by omega
    subst eq
    exact br_t (nI_le (a := 6) (by omega) (by omega)) (nm_r (nI_1 j) (hp a ha (fun y hy => hb y (by omega))))
  | succ d ih =>
    intro q a hq ha hb
    have e1 : 6 * nI j + 6 + nI q = nI (6 * (j + 1) + q) := by
      rw [nu_6', show (6 : Int32) = nI 6 from rfl, nI_add, nI_add]
      exact congrArg nI (by omega)
    have e2 : 6 * nI j + nI q = nI (6 * j + q) := by rw [nu_6', nI_add]
    refine br_f (nI_ge (b := 6) (by omega) (by decide)) ⟨pk_in (6 * (j + 1) + q) 30 (by omega) e1, pk_in (6 * j + q) 30 (by omega) e2, nm_e (nm_r (nI_1 q) (ih (q + 1) _ (by omega) ?_ ?_))⟩
    · rw [pk_cl _ e1, pk_cl _ e2]
      intro x hx
      by_cases cx : x = q
      · subst cx
        rw [pk_us]
        exact hb _ (by omega)
      · rw [pk_un (by omega)]
        exact ha x (by omega)
    · rw [pk_cl _ e1, pk_cl _ e2]
      intro y hy
      rw [pk_un (by omega)]
      exact hb y (by omega)
theorem ym_rem {post : Int32 → SY → Prop} {aE aN aD aJ aW : Nat → Int32} {c i : Nat} {L : Nat → Nat} {sy : Nat → Nat → Nat} (hc : c ≤ 5) (hi : i < c) (hL6 : ∀ j, j < c → L j ≤ 6) (hp : ∀ aS aZ, mv_I c i c L sy aS aZ → post 1 (nI (c - 1), aZ, aS, aE, aN, aD, aJ, aW)) : ∀ d j aS aZ, j + 1 + d = c → i ≤ j → mv_I c i (j + 1) L sy aS aZ → wY_remove_12 post (nI c) (d + 1) (nI j) aZ aS aE aN aD aJ aW := by
  intro d
  induction d with
  | zero =>
    intro j aS aZ h hj hI
    have ej : j + 1 = c := by omega
    refine br_t ?_ (nm_r (pk_sub (b := 1) (by omega)) (hp aS aZ (ej ▸ hI)))
    rw [nI_1]
    exact nI_le (by omega) (by omega)
  | succ d ih =>
    intro j aS aZ h hj hI
    refine br_f ?_ ⟨pk_in (j + 1) 5 (by omega) (nI_1 j), vp_in_nI (by omega) (by omega), nm_e ⟨6 + 1, ym_38 (by omega) (fun bS h1 h2 => ih (j + 1) bS _ (by omega) (by omega) (mv_step (r := j + 1) (by omega) (by omega) hL6 hI ?_ ?_ ?_)) 6 0 aS rfl (fun x hx => absurd hx (Nat.not_lt_zero x)) (fun _ _ => rfl)⟩⟩
    · rw [nI_1]
      exact nI_ge (by omega) (by omega)
    · rw [pk_cl _ (nI_1 j), nI_clamp (by omega), (hI.2 (j + 1) (Nat.le_refl _) (by omega)).1]
      rfl
    · intro x hx
      have := hL6 (j + 1) (by omega)
      exact h1 x (by omega)
    · intro y hy
      exact h2 y (by omega)
theorem i_vc_remove {k : Nat} {u : SX} {v : SY} (I : i_Rel k u v) (hk : k + 3 ≤ 1536) (v1 : Int32) : wpX_remove (fun r u' => wpY_remove (fun r' v' => r' = r ∧ i_Rel (k + 3) u' v') v v1) u v1 := by
  obtain ⟨c, L, sy, tl, jl, aS, aL, aO, aT, aJ, aZ, bS, aE, aN, aD, bJ, aW, rfl, rfl, P, Q⟩ := rl_get I
  have hc := P.2.1
  rcases ix_2 v1 hc with hi | ⟨j, hj, rfl⟩
  · unfold wpX_remove
    dsimp only
    refine xr_no hi ?_
    refine br_t rfl ?_
    unfold wpY_remove
    dsimp only
    refine yr_no hi ?_
    exact br_t rfl ⟨rfl, rl_mk P Q⟩
  · have hL6 : ∀ j, j < c → L j ≤ 6 := fun j hj => (P.2.2.1 j hj).2
    unfold wpX_remove
    dsimp only
    refine xr_yes hc hj ?_
    refine br_f (by decide) (nm_r (nI_1 j) ⟨c - (j + 1) + 1, xm_rem hc hj hL6 (fun cS cL hI => ?_) (c - (j + 1)) (j + 1) aS aL (by omega) (by omega) (mv_0 hj P)⟩)
    unfold wpY_remove
    dsimp only
    refine yr_yes hc hj ?_
    exact br_f (by decide) ⟨c - (j + 1) + 1, ym_rem hc hj hL6 (fun dS dZ hI' => ⟨rfl, rl_mk (mv_end hj P hI) (mv_end hj Q hI')⟩) (c - (j + 1)) j bS aZ (by omega) (Nat.le_refl _) (mv_0 hj Q)⟩
