/-! write -/
theorem yw_37 {post : Int32 → SY → Prop} {J : Int32 → Int32 → (Nat → Int32) → (Nat → Int32) → (Nat → Int32) → (Nat → Int32) → (Nat → Int32) → (Nat → Int32) → (Nat → Int32) → Prop} {fc : Int32} {aZ aS aE aN aD aJ aW : Nat → Int32} {c : Nat} {L : Nat → Nat} {sy : Nat → Nat → Nat} {n k s : Nat} (hT : au_T c L sy aE aN) (hs : s < 992) (hr : au_Real c L (s % 31)) (hk : k < n) (hn : n ≤ 30) (hex : ∃ v, v < 4 ∧ aD (au_st aE aN s v) = nI (n - 1 - k)) (hJ : ∀ v, v < 4 → aD (au_st aE aN s v) = nI (n - 1 - k) → (∀ i, i < 4 → aD (au_st aE aN s i) = nI (n - 1 - k) → v ≤ i) → J (nI (au_st aE aN s v)) (nI (k + 1)) aZ aS aE aN aD (upd aJ k (nI v)) aW) : ∀ i least x5, i ≤ 4 → x5 = nI i + (-1) → (∀ v, i ≤ v → v < 4 → aD (au_st aE aN s v) = nI (n - 1 - k) → least ≤ v) → (least = 4 ∨ (least < 4 ∧ aD (au_st aE aN s least) = nI (n - 1 - k))) → wY_write_37 post J (nI n) (nI s) (nI k) fc aZ aS aE aN aD aJ aW (i + 1) (nI least) x5 := by
  have en : nI n - 1 - nI k = nI (n - 1 - k) := by
    rw [show (1 : Int32) = nI 1 from rfl, pk_sub (by omega), pk_sub (by omega)]
  intro i
  induction i with
  | zero =>
    intro least x5 _ e5 h1 h2
    obtain ⟨v, v1, v2⟩ := hex
    have hl := h1 v (Nat.zero_le _) v1 v2
    have h3 : least < 4 ∧ aD (au_st aE aN s least) = nI (n - 1 - k) := by
      rcases h2 with h | h
      · omega
      · exact h
    subst e5
    refine br_t (by decide) ⟨vp_in_nI (by omega) (by omega), nm_e (ys_step s least hT hs hr h3.1 (nm_r (nI_1 k) ?_) rfl (bi_3 least h3.1))⟩
    rw [nI_clamp (by omega)]
    exact hJ least h3.1 h3.2 (fun i hi hh => h1 i (Nat.zero_le _) hi hh)
  | succ i ih =>
    intro least x5 hi e5 h1 h2
    rw [pk_m1] at e5
    subst e5
    obtain ⟨_, _, _, _, _, _, _, _, hst, _⟩ := au_st_eq hT hr hs (v := i) (by omega)
    have ec : (nI (au_st aE aN s i)).toNatClampNeg = au_st aE aN s i := nI_clamp (by omega)
    refine br_f (nI_pos (by omega)) (ys_step s i hT hs hr (by omega) ⟨vp_in_nI hst (by omega), br_c (fun q => nm_e (ih i _ (by omega) rfl ?_ ?_)) (fun q => nm_e (ih least _ (by omega) rfl ?_ h2))⟩ rfl rfl)
    · intro v v1 v2 v3
      exact v1
    · rw [ec, en] at q
      exact Or.inr ⟨by omega, q⟩
    · rw [ec, en] at q
      intro v v1 v2 v3
      by_cases cv : v = i
      · subst cv
        exact absurd v3 q
      · exact h1 v (by omega) v2 v3
theorem yw_20 {post : Int32 → SY → Prop} {aZ aS aE aN aD aW : Nat → Int32} {c : Nat} {L : Nat → Nat} {sy : Nat → Nat → Nat} {W : Nat → Prop} {n Q : Nat} (hWc : ∀ j, W j → j < c) (hT : au_T c L sy aE aN) (hQ : Q ≤ 30) (hn : n ≤ Q) (hD : ∀ s, s < 992 → au_Real c L (s % 31) → nd_I aE aN W Q (aD s) s) (hmin : ∀ g m, st_Ok L sy W g m → n ≤ m) (hp : ∀ aJ g, st_First L sy W g n → (∀ x, x < n → aJ x = nI (g x) ∧ g x < 4) → post (nI n) (nI c, aZ, aS, aE, aN, aD, aJ, aW)) : ∀ d k s f aJ, k + d = n → au_Rep c L sy f k s → (∀ x, x < k → aJ x = nI (f x) ∧ f x < 4) → au_D aE aN W d s → (∀ g, st_Ok L sy W g n → st_Le f g k) → wY_write_20 post (nI n) (nI c) (d + 1) (nI s) (nI k) aZ aS aE aN aD aJ aW := by
  intro d
  induction d with
  | zero =>
    intro k s f aJ h hR hf hd hl
    have ek : k = n := by omega
    subst ek
    refine br_t (nI_le (Nat.le_refl _) (by omega)) (hp aJ f ⟨⟨fun x hx => (hf x hx).2, fun j hj => (hR.2.2.1 j (hWc j hj)).mp (hd j hj)⟩, fun g m hg => ⟨hmin g m hg, fun e => ?_⟩⟩ hf)
    subst e
    exact hl g hg
  | succ d ih =>
    intro k s f aJ h hR hf hd hl
    have ed : n - 1 - k = d := by omega
    have hs := hR.1
    have hr := hR.2.1
    have hit : ∀ v, v < 4 → (aD (au_st aE aN s v) = nI (n - 1 - k) ↔ au_D aE aN W d (au_st aE aN s v)) := by
      intro v hv
      obtain ⟨ne, nr, _, _, _, _, sp, _, t1, t2, _⟩ := au_st_eq hT hr hs hv
      have hR' := au_step hT (f' := fun x => if x = k then v else f x) hR hv (fun x hx => if_neg (by omega)) (if_pos rfl)
      rw [ed, nd_eq (by omega) (by omega) (hD _ t1 (by rw [t2]; exact sp.1))]
      refine ⟨fun z => z.1, fun z => ⟨z, fun i hi hdi => ?_⟩⟩
      obtain ⟨g, g1, g2, g3⟩ := (au_D_iff hT hWc i _ _ _ hR').mp hdi
      have := hmin g (k + 1 + i) ⟨fun x hx => ?_, g3⟩
      · omega
      · by_cases cx : x < k + 1
        · rw [g1 x cx]
          by_cases ck : x = k
          · rw [if_pos ck]; exact hv
          · rw [if_neg ck]; exact (hf x (by omega)).2
        · exact g2 x (by omega) hx
    refine br_f (nI_ge (by omega) (by omega)) (br_f (nI_ge (b := 31) (by omega) (by decide)) ⟨4 + 1, yw_37 hT hs hr (by omega) (by omega) ?_ (fun v v1 v2 v3 => ih (k + 1) (au_st aE aN s v) (fun x => if x = k then v else f x) _ (by omega) (au_step hT hR v1 (fun x hx => if_neg (by omega)) (if_pos rfl)) ?_ ((hit v v1).mp v2) ?_) 4 4 _ (Nat.le_refl _) rfl (fun v v1 v2 => by omega) (Or.inl rfl)⟩)
    · obtain ⟨v, v1, v2⟩ := hd
      exact ⟨v, v1, (hit v v1).mpr v2⟩
    · intro x hx
      by_cases cx : x = k
      · subst cx
        rw [pk_us, if_pos rfl]
        exact ⟨rfl, v1⟩
      · rw [pk_un cx, if_neg cx]
        exact hf x (by omega)
    · intro g hg
      rcases hl g hg with e | ⟨b, b1, b2, b3⟩
      · have g4 : g k < 4 := hg.1 k (by omega)
        have hRg := au_step hT (f' := g) hR g4 (fun x hx => (e x hx).symm) rfl
        have hdg : au_D aE aN W d (au_st aE aN s (g k)) := by
          refine (au_D_iff hT hWc d _ _ _ hRg).mpr ⟨g, fun _ _ => rfl, fun x _ hx => hg.1 x (by omega), ?_⟩
          rw [show k + 1 + d = n by omega]
          exact hg.2
        have hle := v3 (g k) g4 ((hit _ g4).mpr hdg)
        by_cases c1 : v = g k
        · left
          intro x hx
          dsimp only
          by_cases cx : x = k
          · rw [if_pos cx, cx]; exact c1
          · rw [if_neg cx]; exact e x (by omega)
        · right
          refine ⟨k, by omega, fun x hx => ?_, ?_⟩
          · dsimp only
            rw [if_neg (by omega)]
            exact e x hx
          · dsimp only
            rw [if_pos rfl]
            omega
      · right
        refine ⟨b, by omega, fun x hx => ?_, ?_⟩
        · dsimp only
          rw [if_neg (by omega)]
          exact b2 x hx
        · dsimp only
          rw [if_neg (by omega)]
          exact b3
theorem bi_full : ∀ c, c < 6 → ∀ M, M < 32 → ((nI M &&& (((1 : Int32) <<< (nI c &&& 31)) - 1)) = (((1 : Int32) <<< (nI c &&& 31)) - 1) ↔ ∀ j, j < c → M.testBit j = true) := by decide +kernel
theorem yw_write {post : Int32 → SY → Prop} {aZ aS aE aN aD aJ aW : Nat → Int32} {c : Nat} {L : Nat → Nat} {sy : Nat → Nat → Nat} (P : pc_P c L sy (nI c) aS aZ) (hp : ∀ aE aN aD aJ aW g n, n ≤ 30 → st_First L sy (fun j => j < c) g n → (∀ x, x < n → aJ x = nI (g x) ∧ g x < 4) → post (nI n) (nI c, aZ, aS, aE, aN, aD, aJ, aW)) : wpY_write post (nI c, aZ, aS, aE, aN, aD, aJ, aW) := by
  have hc := P.2.1
  refine yv_solve (W := fun j => j < c) P (fun j hj => hj) (fun M hM => bi_full c (by omega) M hM) (fun bE bN bD bW Q m hT h1 h2 h3 h4 => ?_)
  refine ys_start P (fun fs hfs hR => ⟨m + 1, yw_20 (W := fun j => j < c) (fun j hj => hj) hT h1 h2 h3 h4.2 (fun cJ g hg hx => hp bE bN bD cJ bW g m (by omega) hg hx) m 0 fs (fun _ => 0) aJ (by omega) (hR _) (fun x hx => absurd hx (Nat.not_lt_zero x)) ((yv_D0 hT (fun j hj => hj) hR m).mpr h4.1) (fun g _ => Or.inl (fun x hx => absurd hx (Nat.not_lt_zero x)))⟩)
