/-! shortest, symbolAt, shortestWithout, pair -/
theorem bi_31 : ∀ r, r < 5 → (((31 : Int32) >>> (nI r &&& 31)) &&& 1) = 1 := by decide +kernel
theorem bi_wx : ∀ i, i < 5 → ∀ r, r < 5 → (((((31 : Int32) &&& (((1 : Int32) <<< (nI i &&& 31)) ^^^ (-1))) >>> (nI r &&& 31)) &&& 1) = 1 ↔ r ≠ i) := by decide +kernel
theorem bi_wy : ∀ c, c < 6 → ∀ i, i < 5 → ∀ M, M < 32 → ((nI M &&& ((((1 : Int32) <<< (nI c &&& 31)) - 1) &&& (((1 : Int32) <<< (nI i &&& 31)) ^^^ (-1)))) = ((((1 : Int32) <<< (nI c &&& 31)) - 1) &&& (((1 : Int32) <<< (nI i &&& 31)) ^^^ (-1))) ↔ ∀ j, j < c → (j = i ∨ M.testBit j = true)) := by decide +kernel
theorem bi_px : ∀ i, i < 5 → ∀ j, j < 5 → ∀ r, r < 5 → ((((((1 : Int32) <<< (nI i &&& 31)) ||| ((1 : Int32) <<< (nI j &&& 31))) >>> (nI r &&& 31)) &&& 1) = 1 ↔ r = i ∨ r = j) := by decide +kernel
theorem bi_py : ∀ i, i < 5 → ∀ j, j < 5 → ∀ M, M < 32 → ((nI M &&& (((1 : Int32) <<< (nI i &&& 31)) ||| ((1 : Int32) <<< (nI j &&& 31)))) = (((1 : Int32) <<< (nI i &&& 31)) ||| ((1 : Int32) <<< (nI j &&& 31))) ↔ M.testBit i = true ∧ M.testBit j = true) := by decide +kernel
theorem xf_all {post : SX → Prop} {c : Nat} {L : Nat → Nat} {sy : Nat → Nat → Nat} {tl jl : Int32} {aS aL aO aT aJ : Nat → Int32} (P : pc_P c L sy (nI c) aS aL) (hp : ∀ tl aO aT aJ S m, m ≤ 30 → st_First L sy (fun j => j < c) S m → (∀ x, x < m → aJ x = nI (S x) ∧ S x < 4) → post (nI c, tl, nI m, aS, aL, aO, aT, aJ)) : wpX_findJoin post (nI c, tl, jl, aS, aL, aO, aT, aJ) 31 :=
  xf_find (W := fun j => j < c) P (fun j hj => hj) (fun r hr => ⟨fun _ => hr, fun _ => bi_31 r (by have := P.2.1; omega)⟩) hp
theorem i_vc_shortest {k : Nat} {u : SX} {v : SY} (I : i_Rel k u v) (hk : k + 3 ≤ 1536) : wpX_shortest (fun r u' => wpY_shortest (fun r' v' => r' = r ∧ i_Rel (k + 3) u' v') v) u := by
  obtain ⟨c, L, sy, tl, jl, aS, aL, aO, aT, aJ, aZ, bS, aE, aN, aD, bJ, aW, rfl, rfl, P, Q⟩ := rl_get I
  have hc := P.2.1
  unfold wpX_shortest
  dsimp only
  refine xf_all P (fun tl aO aT aJ S m m1 m2 m3 => ?_)
  unfold wpY_shortest
  dsimp only
  exact yv_solve (W := fun j => j < c) Q (fun j hj => hj) (fun M hM => bi_full c (by omega) M hM) (fun _ _ _ _ _ n _ _ _ _ h => ⟨congrArg nI (yv_len_first m2 h), rl_mk P Q⟩)
theorem i_vc_symbolAt {k : Nat} {u : SX} {v : SY} (I : i_Rel k u v) (hk : k + 3 ≤ 1536) (v1 : Int32) : wpX_symbolAt (fun r u' => wpY_symbolAt (fun r' v' => r' = r ∧ i_Rel (k + 3) u' v') v v1) u v1 := by
  obtain ⟨c, L, sy, tl, jl, aS, aL, aO, aT, aJ, aZ, bS, aE, aN, aD, bJ, aW, rfl, rfl, P, Q⟩ := rl_get I
  have hc := P.2.1
  unfold wpX_symbolAt
  dsimp only
  refine xf_all P (fun tl aO aT aJ S m m1 m2 m3 => ?_)
  dsimp only
  unfold wpY_symbolAt
  dsimp only
  rcases pk_ix v1 (n := m) (by omega) with h | h | ⟨x, hx, rfl⟩
  · exact br_t h (yw_write Q (fun _ _ _ _ _ g n n1 n2 n3 => br_t h ⟨rfl, rl_mk P Q⟩))
  · have h0 : ¬ v1 < 0 := Int32.not_lt.mpr (Int32.le_trans (nI_pos' (by omega)) h)
    refine br_f h0 (br_t h (yw_write Q (fun _ _ _ _ _ g n n1 n2 n3 => ?_)))
    obtain ⟨e, _⟩ := st_first_unique m2 n2
    subst e
    exact br_f h0 (br_f (Int32.not_lt.mpr h) ⟨rfl, rl_mk P Q⟩)
  · have h0 : ¬ nI x < 0 := nI_pos (by omega)
    refine br_f h0 (br_f (nI_ge hx (by omega)) ⟨vp_in_nI (by omega) (by omega), yw_write Q (fun _ _ _ cJ _ g n n1 n2 n3 => ?_)⟩)
    obtain ⟨e, he⟩ := st_first_unique m2 n2
    subst e
    refine br_f h0 (br_t (nI_lt hx (by omega)) ⟨vp_in_nI (by omega) (by omega), ?_, rl_mk P Q⟩)
    show cJ (nI x).toNatClampNeg = aJ (nI x).toNatClampNeg
    rw [nI_clamp (by omega), (n3 x hx).1, (m3 x hx).1, he x hx]
theorem i_vc_shortestWithout {k : Nat} {u : SX} {v : SY} (I : i_Rel k u v) (hk : k + 3 ≤ 1536) (v1 : Int32) : wpX_shortestWithout (fun r u' => wpY_shortestWithout (fun r' v' => r' = r ∧ i_Rel (k + 3) u' v') v v1) u v1 := by
  obtain ⟨c, L, sy, tl, jl, aS, aL, aO, aT, aJ, aZ, bS, aE, aN, aD, bJ, aW, rfl, rfl, P, Q⟩ := rl_get I
  have hc := P.2.1
  unfold wpX_shortestWithout
  dsimp only
  rcases ix_2 v1 hc with hi | ⟨i, hi, rfl⟩
  · refine xr_no hi ?_
    refine br_t rfl ?_
    unfold wpY_shortestWithout
    dsimp only
    refine yr_no hi ?_
    exact br_t rfl ⟨rfl, rl_mk P Q⟩
  · refine xr_yes hc hi ?_
    refine br_f (by decide) (xf_find (W := fun j => j < c ∧ j ≠ i) P (fun j hj => hj.1) (fun r hr => ?_) (fun tl aO aT aJ S m m1 m2 m3 => ?_))
    · rw [bi_wx i (by omega) r (by omega)]
      exact ⟨fun h => ⟨hr, h⟩, fun h => h.2⟩
    · unfold wpY_shortestWithout
      dsimp only
      refine yr_yes hc hi ?_
      refine br_f (by decide) (yv_solve (W := fun j => j < c ∧ j ≠ i) Q (fun j hj => hj.1) (fun M hM => ?_) (fun _ _ _ _ _ n _ _ _ _ h => ⟨congrArg nI (yv_len_first m2 h), rl_mk P Q⟩))
      rw [bi_wy c (by omega) i (by omega) M hM]
      refine ⟨fun h j hj => (h j hj.1).resolve_left hj.2, fun h j h1 => ?_⟩
      by_cases c1 : j = i
      · exact Or.inl c1
      · exact Or.inr (h j ⟨h1, c1⟩)
theorem i_vc_pair {k : Nat} {u : SX} {v : SY} (I : i_Rel k u v) (hk : k + 3 ≤ 1536) (v1 : Int32) (v2 : Int32) : wpX_pair (fun r u' => wpY_pair (fun r' v' => r' = r ∧ i_Rel (k + 3) u' v') v v1 v2) u v1 v2 := by
  obtain ⟨c, L, sy, tl, jl, aS, aL, aO, aT, aJ, aZ, bS, aE, aN, aD, bJ, aW, rfl, rfl, P, Q⟩ := rl_get I
  have hc := P.2.1
  unfold wpX_pair
  dsimp only
  rcases ix_2 v1 hc with hi | ⟨i, hi, rfl⟩
  · refine xr_no hi ?_
    refine br_t rfl ?_
    unfold wpY_pair
    dsimp only
    refine yr_no hi ?_
    exact br_t rfl ⟨rfl, rl_mk P Q⟩
  · refine xr_yes hc hi ?_
    refine br_f (by decide) ?_
    rcases ix_2 v2 hc with hj | ⟨j, hj, rfl⟩
    · refine xr_no hj ?_
      refine br_t rfl ?_
      unfold wpY_pair
      dsimp only
      refine yr_yes hc hi ?_
      refine br_f (by decide) ?_
      refine yr_no hj ?_
      exact br_t rfl ⟨rfl, rl_mk P Q⟩
    · have hWc : ∀ r, r = i ∨ r = j → r < c := by
        intro r hr
        omega
      refine xr_yes hc hj ?_
      refine br_f (by decide) (xf_find (W := fun r => r = i ∨ r = j) P hWc (fun r hr => bi_px i (by omega) j (by omega) r (by omega)) (fun tl aO aT aJ S m m1 m2 m3 => ?_))
      unfold wpY_pair
      dsimp only
      refine yr_yes hc hi ?_
      refine br_f (by decide) ?_
      refine yr_yes hc hj ?_
      refine br_f (by decide) (yv_solve (W := fun r => r = i ∨ r = j) Q hWc (fun M hM => ?_) (fun _ _ _ _ _ n _ _ _ _ h => ⟨congrArg nI (yv_len_first m2 h), rl_mk P Q⟩))
      rw [bi_py i (by omega) j (by omega) M hM]
      constructor
      · rintro ⟨a, b⟩ r (rfl | rfl)
        · exact a
        · exact b
      · intro h
        exact ⟨h i (Or.inl rfl), h j (Or.inr rfl)⟩
