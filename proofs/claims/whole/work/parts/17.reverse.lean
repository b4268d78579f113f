theorem i_vc_hasReverse {k : Nat} {u : SX} {v : SY} (I : i_Rel k u v) (hk : k + 3 ≤ 1536) (v1 : Int32) : wpX_hasReverse (fun r u' => wpY_hasReverse (fun r' v' => r' = r ∧ i_Rel (k + 3) u' v') v v1) u v1 := by
  obtain ⟨c, L, sy, tl, jl, aS, aL, aO, aT, aJ, aZ, bS, aE, aN, aD, bJ, aW, rfl, rfl, P, Q⟩ := rl_get I
  have hc := P.2.1
  unfold wpX_hasReverse
  dsimp only
  rcases ix_2 v1 hc with hi | ⟨i, hi, rfl⟩
  · refine xr_no hi ?_
    refine br_t rfl ?_
    unfold wpY_hasReverse
    dsimp only
    exact yw_write Q (fun _ _ _ _ _ g n n1 n2 n3 => ⟨0 + 1, yh_no hi ⟨rfl, rl_mk P Q⟩⟩)
  · obtain ⟨l1, l2⟩ := P.2.2.1 i hi
    obtain ⟨z1, _⟩ := Q.2.2.1 i hi
    refine xr_yes hc hi ?_
    refine br_f (by decide) (xf_all P (fun tl aO aT aJ S m m1 m2 m3 => ?_))
    dsimp only
    have key : ∀ p, p + L i ≤ m → ((∀ x, x < L i → aJ (p + x) = aS (6 * i + (L i - 1 - x))) ↔ ∀ x, x < L i → S (p + x) = sy i (L i - 1 - x)) := fun p hp => tr_eq m3 (P.2.2.2 i hi) (fun x => L i - 1 - x) (fun x hx => by omega) hp
    have keyY : ∀ (cJ : Nat → Int32) (g : Nat → Nat), (∀ x, x < m → S x = g x) → (∀ x, x < m → cJ x = nI (g x) ∧ g x < 4) → ∀ p, p + L i ≤ m → ((∀ x, x < L i → cJ (p + x) = bS (6 * i + (L i - 1 - x))) ↔ ∀ x, x < L i → S (p + x) = sy i (L i - 1 - x)) := by
      intro cJ g hg hJ p hp
      exact tr_eq (fun x hx => by rw [hg x hx]; exact hJ x hx) (Q.2.2.2 i hi) (fun x => L i - 1 - x) (fun x hx => by omega) hp
    refine ⟨m + 1 + 1, xv_18 (by omega) l1 l2 m1 (fun p p1 p2 => ?_) (fun hno => ?_) (m + 1) 0 (by omega) (fun b hb => absurd hb (Nat.not_lt_zero b))⟩
    · unfold wpY_hasReverse
      dsimp only
      refine yw_write Q (fun _ _ _ cJ _ g n n1 n2 n3 => ?_)
      obtain ⟨e, he⟩ := st_first_unique m2 n2
      subst e
      have kY := keyY cJ g he n3
      exact ⟨m + 1 + 1, yh_l hc hi z1 l2 m1 (fun _ _ _ => ⟨rfl, rl_mk P Q⟩) (fun hno => absurd ((kY p p1).mpr ((key p p1).mp p2)) (hno p p1)) (m + 1) 0 0 (by omega) (Or.inl ⟨rfl, fun b hb => absurd hb (Nat.not_lt_zero b)⟩)⟩
    · unfold wpY_hasReverse
      dsimp only
      refine yw_write Q (fun _ _ _ cJ _ g n n1 n2 n3 => ?_)
      obtain ⟨e, he⟩ := st_first_unique m2 n2
      subst e
      have kY := keyY cJ g he n3
      exact ⟨m + 1 + 1, yh_l hc hi z1 l2 m1 (fun q q1 q2 => absurd ((key q q1).mpr ((kY q q1).mp q2)) (hno q q1)) (fun _ => ⟨rfl, rl_mk P Q⟩) (m + 1) 0 0 (by omega) (Or.inl ⟨rfl, fun b hb => absurd hb (Nat.not_lt_zero b)⟩)⟩
