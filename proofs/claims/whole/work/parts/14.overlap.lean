/-! overlap and contains -/
theorem ys_same_l {post : Int32 → Prop} {fc : Int32} {aZ aS aE aN aD aJ aW : Nat → Int32} {i p j q k : Nat} (h1 : 6 * i + p + k ≤ 30) (h2 : 6 * j + q + k ≤ 30) (hy : (∀ x, x < k → aS (6 * i + p + x) = aS (6 * j + q + x)) → post 1) (hn : ¬ (∀ x, x < k → aS (6 * i + p + x) = aS (6 * j + q + x)) → post 0) : ∀ d x b, x + d = k → ((b = 0 ∧ ¬ ∀ y, y < k → aS (6 * i + p + y) = aS (6 * j + q + y)) ∨ (b = 1 ∧ ∀ y, y < x → aS (6 * i + p + y) = aS (6 * j + q + y))) → wY_same_6 post (nI i) (nI p) (nI j) (nI q) (nI k) fc aZ aS aE aN aD aJ aW (d + 1) b (nI x) := by
  intro d
  induction d with
  | zero =>
    intro x b h hb
    have ex : x = k := by omega
    subst ex
    refine br_t (nI_le (Nat.le_refl _) (by omega)) ?_
    rcases hb with ⟨rfl, hb⟩ | ⟨rfl, hb⟩
    · exact ⟨nb_0, hn hb⟩
    · exact ⟨nb_1, hy hb⟩
  | succ d ih =>
    intro x b h hb
    refine br_f (nI_ge (by omega) (by omega)) ?_
    rcases hb with ⟨rfl, hb⟩ | ⟨rfl, hb⟩
    · exact br_t rfl (nm_r (nI_1 x) (ih (x + 1) 0 (by omega) (Or.inl ⟨rfl, hb⟩)))
    · have e1 : 6 * nI i + nI p + nI x = nI (6 * i + p + x) := by rw [nu_6', nI_add, nI_add]
      have e2 : 6 * nI j + nI q + nI x = nI (6 * j + q + x) := by rw [nu_6', nI_add, nI_add]
      refine br_f (by decide) ⟨pk_in _ 30 (by omega) e1, pk_in _ 30 (by omega) e2, br_c (fun z => nm_r (nI_1 x) (ih (x + 1) 1 (by omega) (Or.inr ⟨rfl, lt_s hb ?_⟩))) (fun z => nm_r (nI_1 x) (ih (x + 1) 0 (by omega) (Or.inl ⟨rfl, fun w => ?_⟩)))⟩
      · rw [pk_cl _ e1, pk_cl _ e2] at z
        exact z
      · rw [pk_cl _ e1, pk_cl _ e2] at z
        exact z (w x (by omega))
theorem ys_same {post : Int32 → Prop} {fc x1 x2 x3 x4 x5 : Int32} {aZ aS aE aN aD aJ aW : Nat → Int32} (i p j q k : Nat) (h1 : 6 * i + p + k ≤ 30) (h2 : 6 * j + q + k ≤ 30) (hy : (∀ x, x < k → aS (6 * i + p + x) = aS (6 * j + q + x)) → post 1) (hn : ¬ (∀ x, x < k → aS (6 * i + p + x) = aS (6 * j + q + x)) → post 0) (e1 : x1 = nI i) (e2 : x2 = nI p) (e3 : x3 = nI j) (e4 : x4 = nI q) (e5 : x5 = nI k) : wpY_same post (fc, aZ, aS, aE, aN, aD, aJ, aW) x1 x2 x3 x4 x5 := by
  subst e1 e2 e3 e4 e5
  exact ⟨k + 1, ys_same_l h1 h2 hy hn k 0 1 (by omega) (Or.inr ⟨rfl, fun y hy => absurd hy (Nat.not_lt_zero y)⟩)⟩
theorem yo_l {post : Int32 → Prop} {fc : Int32} {aZ aS aE aN aD aJ aW : Nat → Int32} {i j n l : Nat} (hi : i < 5) (hj : j < 5) (hz : aZ i = nI n) (hn : n ≤ 6) (hl : l ≤ 6) (hy : ∀ k, k ≤ n → k ≤ l → tx_Ov aS aS (6 * i) n j k → (∀ q, k < q → q ≤ n → q ≤ l → ¬ tx_Ov aS aS (6 * i) n j q) → post (nI k)) : ∀ k, k ≤ n → k ≤ l → (∀ q, k < q → q ≤ n → q ≤ l → ¬ tx_Ov aS aS (6 * i) n j q) → wY_overlap_49 post (nI i) (nI j) fc aZ aS aE aN aD aJ aW (k + 1) (nI k) := by
  intro k
  induction k with
  | zero =>
    intro h1 h2 hq
    exact br_t (by decide) (hy 0 h1 h2 (fun x hx => absurd hx (Nat.not_lt_zero x)) hq)
  | succ k ih =>
    intro h1 h2 hq
    have e : 6 * i + (n - (k + 1)) = 6 * i + n - (k + 1) := by omega
    refine br_f (nI_nle (by omega) (by omega)) ⟨vp_in_nI hi (by omega), ?_⟩
    refine ys_same i (n - (k + 1)) j 0 (k + 1) (by omega) (by omega) (fun h => ?_) (fun h => ?_) rfl (by rw [nI_clamp (by omega), hz, pk_sub (by omega)]) rfl rfl rfl
    · rw [e] at h
      exact br_f (by decide) (hy (k + 1) h1 h2 h hq)
    · rw [e] at h
      refine br_t rfl (nm_r (pk_m1 k) (ih (by omega) (by omega) (fun q q1 q2 q3 => ?_)))
      by_cases c : q = k + 1
      · subst c; exact h
      · exact hq q (by omega) q2 q3
theorem yo_c {post : Int32 → Prop} {fc : Int32} {aZ aS aE aN aD aJ aW : Nat → Int32} {i j n l : Nat} (hi : i < 5) (hj : j < 5) (hz : aZ i = nI n) (hzj : aZ j = nI l) (hn : n ≤ 6) (hl : l ≤ 6) (hy : ∀ p, p + l ≤ n → tx_St aS aS (6 * i) j l p → post 1) (hno : (∀ b, b + l ≤ n → ¬ tx_St aS aS (6 * i) j l b) → post 0) : ∀ d p, p + d = n + 1 → (∀ b, b < p → ¬ tx_St aS aS (6 * i) j l b) → wY_contains_20 post (nI i) (nI j) fc aZ aS aE aN aD aJ aW (d + 1) (nI p) := by
  have ei : aZ (nI i).toNatClampNeg = nI n := by rw [nI_clamp (by omega)]; exact hz
  have ej : aZ (nI j).toNatClampNeg = nI l := by rw [nI_clamp (by omega)]; exact hzj
  have hvi : vp_in (nI i) 5 := vp_in_nI hi (by omega)
  have hvj : vp_in (nI j) 5 := vp_in_nI hj (by omega)
  intro d
  induction d with
  | zero =>
    intro p hp hb
    refine ⟨hvj, hvi, br_t ?_ (hno (fun b h => hb b (by omega)))⟩
    rw [ei, ej, nI_add]
    exact nI_lt (by omega) (by omega)
  | succ d ih =>
    intro p hp hb
    by_cases c : p + l ≤ n
    · refine ⟨hvj, hvi, br_f ?_ ⟨hvj, ?_⟩⟩
      · rw [ei, ej, nI_add]
        exact nI_nlt c (by omega)
      · refine ys_same i p j 0 l (by omega) (by omega) (fun h => ?_) (fun h => ?_) rfl rfl rfl rfl ej
        · exact br_f (by decide) (hy p c h)
        · exact br_t rfl (nm_r (nI_1 p) (ih (p + 1) (by omega) (lt_s hb h)))
    · refine ⟨hvj, hvi, br_t ?_ (hno (fun b h => hb b (by omega)))⟩
      rw [ei, ej, nI_add]
      exact nI_lt (by omega) (by omega)
theorem i_vc_overlap {k : Nat} {u : SX} {v : SY} (I : i_Rel k u v) (hk : k + 3 ≤ 1536) (v1 : Int32) (v2 : Int32) : wpX_overlap (fun r => wpY_overlap (fun r' => r' = r ∧ i_Rel (k + 3) u v) v v1 v2) u v1 v2 := by
  obtain ⟨c, L, sy, tl, jl, aS, aL, aO, aT, aJ, aZ, bS, aE, aN, aD, bJ, aW, rfl, rfl, P, Q⟩ := rl_get I
  have hc := P.2.1
  unfold wpX_overlap
  dsimp only
  rcases ix_2 v1 hc with hi | ⟨i, hi, rfl⟩
  · refine xr_no hi ?_
    refine br_t rfl ?_
    unfold wpY_overlap
    dsimp only
    refine yr_no hi ?_
    exact br_t rfl ⟨rfl, rl_mk P Q⟩
  · refine xr_yes hc hi ?_
    refine br_f (by decide) ?_
    rcases ix_2 v2 hc with hj | ⟨j, hj, rfl⟩
    · refine xr_no hj ?_
      refine br_t rfl ?_
      unfold wpY_overlap
      dsimp only
      refine yr_yes hc hi ?_
      refine br_f (by decide) ?_
      refine yr_no hj ?_
      exact br_t rfl ⟨rfl, rl_mk P Q⟩
    · obtain ⟨li1, li2⟩ := P.2.2.1 i hi
      obtain ⟨lj1, lj2⟩ := P.2.2.1 j hj
      obtain ⟨zi1, _⟩ := Q.2.2.1 i hi
      obtain ⟨zj1, _⟩ := Q.2.2.1 j hj
      have hvi : vp_in (nI i) 5 := vp_in_nI (by omega) (by omega)
      have hvj : vp_in (nI j) 5 := vp_in_nI (by omega) (by omega)
      have eli : aL (nI i).toNatClampNeg = nI (L i) := by rw [nI_clamp (by omega)]; exact li1
      have ezi : aZ (nI i).toNatClampNeg = nI (L i) := by rw [nI_clamp (by omega)]; exact zi1
      have ezj : aZ (nI j).toNatClampNeg = nI (L j) := by rw [nI_clamp (by omega)]; exact zj1
      refine xr_yes hc hj ?_
      refine br_f (by decide) ⟨hvi, ?_⟩
      refine xs_over_symbols (6 * i) (L i) j (L j) (by omega) lj1 lj2 (by omega) (fun m m1 m2 m3 m4 => ?_) (nu_6 i) eli rfl
      unfold wpY_overlap
      dsimp only
      refine yr_yes hc hi ?_
      refine br_f (by decide) ?_
      refine yr_yes hc hj ?_
      have fin : ∀ q, q ≤ L i → q ≤ L j → tx_Ov bS bS (6 * i) (L i) j q → (∀ b, q < b → b ≤ L i → b ≤ L j → ¬ tx_Ov bS bS (6 * i) (L i) j b) → nI q = nI m ∧ i_Rel (k + 3) (nI c, tl, jl, aS, aL, aO, aT, aJ) (nI c, aZ, bS, aE, aN, aD, bJ, aW) := by
        intro q q1 q2 q3 q4
        refine ⟨congrArg nI ?_, rl_mk P Q⟩
        have a3 := (tx_ov (f := sy i) (P.2.2.2 i hi) (P.2.2.2 j hj) m1 m2).mp m3
        have b3 := (tx_ov (f := sy i) (Q.2.2.2 i hi) (Q.2.2.2 j hj) q1 q2).mp q3
        by_cases c1 : q < m
        · exact absurd ((tx_ov (f := sy i) (Q.2.2.2 i hi) (Q.2.2.2 j hj) m1 m2).mpr a3) (q4 m c1 m1 m2)
        · by_cases c2 : m < q
          · exact absurd ((tx_ov (f := sy i) (P.2.2.2 i hi) (P.2.2.2 j hj) q1 q2).mpr b3) (m4 q c2 q1 q2)
          · omega
      refine br_f (by decide) ⟨hvi, hvj, pk_le (L j) (L i) (fun h => ⟨hvj, nm_r ezj ⟨L j + 1, ?_⟩⟩) (fun h => ⟨hvi, nm_r ezi ⟨L i + 1, ?_⟩⟩) ezj ezi⟩
      · exact yo_l (by omega) (by omega) zi1 li2 lj2 fin (L j) h (Nat.le_refl _) (fun q q1 q2 q3 => by omega)
      · exact yo_l (by omega) (by omega) zi1 li2 lj2 fin (L i) (Nat.le_refl _) (by omega) (fun q q1 q2 q3 => by omega)
theorem i_vc_contains {k : Nat} {u : SX} {v : SY} (I : i_Rel k u v) (hk : k + 3 ≤ 1536) (v1 : Int32) (v2 : Int32) : wpX_contains (fun r => wpY_contains (fun r' => r' = r ∧ i_Rel (k + 3) u v) v v1 v2) u v1 v2 := by
  obtain ⟨c, L, sy, tl, jl, aS, aL, aO, aT, aJ, aZ, bS, aE, aN, aD, bJ, aW, rfl, rfl, P, Q⟩ := rl_get I
  have hc := P.2.1
  unfold wpX_contains
  dsimp only
  rcases ix_2 v1 hc with hi | ⟨i, hi, rfl⟩
  · refine xr_no hi ?_
    refine br_t rfl ?_
    unfold wpY_contains
    dsimp only
    refine yr_no hi ?_
    exact br_t rfl ⟨rfl, rl_mk P Q⟩
  · refine xr_yes hc hi ?_
    refine br_f (by decide) ?_
    rcases ix_2 v2 hc with hj | ⟨j, hj, rfl⟩
    · refine xr_no hj ?_
      refine br_t rfl ?_
      unfold wpY_contains
      dsimp only
      refine yr_yes hc hi ?_
      refine br_f (by decide) ?_
      refine yr_no hj ?_
      exact br_t rfl ⟨rfl, rl_mk P Q⟩
    · obtain ⟨li1, li2⟩ := P.2.2.1 i hi
      obtain ⟨lj1, lj2⟩ := P.2.2.1 j hj
      obtain ⟨zi1, _⟩ := Q.2.2.1 i hi
      obtain ⟨zj1, _⟩ := Q.2.2.1 j hj
      have hvi : vp_in (nI i) 5 := vp_in_nI (by omega) (by omega)
      have eli : aL (nI i).toNatClampNeg = nI (L i) := by rw [nI_clamp (by omega)]; exact li1
      have key : ∀ p, p + L j ≤ L i → (tx_St aS aS (6 * i) j (L j) p ↔ tx_St bS bS (6 * i) j (L j) p) := fun p hp => (tx_at (f := sy i) (P.2.2.2 i hi) (P.2.2.2 j hj) hp).trans (tx_at (f := sy i) (Q.2.2.2 i hi) (Q.2.2.2 j hj) hp).symm
      refine xr_yes hc hj ?_
      refine br_f (by decide) ⟨hvi, ?_⟩
      refine xs_place_symbols (6 * i) (L i) j (L j) (by omega) lj1 lj2 (by omega) (fun m m1 m2 m3 => ?_) (fun hno => ?_) (nu_6 i) eli rfl
      · refine br_f (fun e => nd_m1 (n := m) (by omega) e.symm) ?_
        unfold wpY_contains
        dsimp only
        refine yr_yes hc hi ?_
        refine br_f (by decide) ?_
        refine yr_yes hc hj ?_
        exact br_f (by decide) ⟨L i + 1 + 1, yo_c (by omega) (by omega) zi1 zj1 li2 lj2 (fun _ _ _ => ⟨rfl, rl_mk P Q⟩) (fun hno => absurd ((key m m1).mp m2) (hno m m1)) (L i + 1) 0 (by omega) (fun b hb => absurd hb (Nat.not_lt_zero b))⟩
      · refine br_t rfl ?_
        unfold wpY_contains
        dsimp only
        refine yr_yes hc hi ?_
        refine br_f (by decide) ?_
        refine yr_yes hc hj ?_
        exact br_f (by decide) ⟨L i + 1 + 1, yo_c (by omega) (by omega) zi1 zj1 li2 lj2 (fun m m1 m2 => absurd ((key m m1).mpr m2) (hno m m1)) (fun _ => ⟨rfl, rl_mk P Q⟩) (L i + 1) 0 (by omega) (fun b hb => absurd hb (Nat.not_lt_zero b))⟩
