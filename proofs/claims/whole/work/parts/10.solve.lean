/-! solve -/
def yv_B (c : Nat) (L : Nat → Nat) (sy : Nat → Nat → Nat) (e v : Nat) (aE aN : Nat → Int32) : Prop := ∀ i x, ((i < e ∧ x < 4) ∨ (i = e ∧ x < v)) → i < 31 → au_Real c L i → au_TS c L sy aE aN i x
theorem yv_10 {post : Int32 → SY → Prop} {J : Int32 → Int32 → (Nat → Int32) → (Nat → Int32) → (Nat → Int32) → (Nat → Int32) → (Nat → Int32) → (Nat → Int32) → (Nat → Int32) → Prop} {x1 : Int32} {aZ aS aD aJ : Nat → Int32} {c : Nat} {L : Nat → Nat} {sy : Nat → Nat → Nat} {e : Nat} (he : e < 31) (P : pc_P c L sy (nI c) aS aZ) (hJ : ∀ aE aN aW, yv_B c L sy (e + 1) 0 aE aN → J (nI (e + 1)) (nI c) aZ aS aE aN aD aJ aW) : ∀ d v aE aN aW, v + d = 4 → yv_B c L sy e v aE aN → wY_solve_10 post J x1 (nI e) (d + 1) (nI v) (nI c) aZ aS aE aN aD aJ aW := by
  intro d
  induction d with
  | zero =>
    intro v aE aN aW h hB
    have ev : v = 4 := by omega
    subst ev
    exact br_t (nI_le (a := 4) (by omega) (by omega)) (nm_r (nI_1 e) (hJ aE aN aW (fun i x hx h1 h2 => hB i x (by omega) h1 h2)))
  | succ d ih =>
    intro v aE aN aW h hB
    refine br_f (nI_ge (b := 4) (by omega) (by decide)) (ys_real e he P (fun hr => br_f (by decide) (fo_follow he (by omega) P hr (fun bW found full f1 f2 f3 => nm_r (nI_1 v) (ih (v + 1) _ _ _ (by omega) ?_)))) (fun hr => br_t rfl (nm_r (nI_1 e) (hJ aE aN aW (fun i x hx h1 h2 => ?_)))) rfl)
    · intro i x hx h1 h2
      by_cases ci : i = e ∧ x = v
      · obtain ⟨rfl, rfl⟩ := ci
        exact ⟨found, full, pk_us, pk_us, f1, f2, f3⟩
      · obtain ⟨ne, nr, q1, q2, q3⟩ := hB i x (by omega) h1 h2
        refine ⟨ne, nr, ?_, ?_, q3⟩
        · rw [pk_un (by omega)]; exact q1
        · rw [pk_un (by omega)]; exact q2
    · by_cases ci : i = e
      · subst ci
        exact absurd h2 hr
      · exact hB i x (by omega) h1 h2
theorem yv_2 {post : Int32 → SY → Prop} {x1 : Int32} {aZ aS aD aJ : Nat → Int32} {c : Nat} {L : Nat → Nat} {sy : Nat → Nat → Nat} (P : pc_P c L sy (nI c) aS aZ) (hp : ∀ aE aN aW, au_T c L sy aE aN → ∃ n, wY_solve_43 post x1 (nI c) n 0 aZ aS aE aN aD aJ aW) : ∀ d e aE aN aW, e + d = 31 → yv_B c L sy e 0 aE aN → wY_solve_2 post x1 (d + 1) (nI e) (nI c) aZ aS aE aN aD aJ aW := by
  intro d
  induction d with
  | zero =>
    intro e aE aN aW h hB
    have ee : e = 31 := by omega
    subst ee
    exact br_t (nI_le (a := 31) (by omega) (by omega)) (hp aE aN aW (fun i x h1 h2 h3 => hB i x (by omega) h1 h2))
  | succ d ih =>
    intro e aE aN aW h hB
    exact br_f (nI_ge (b := 31) (by omega) (by decide)) ⟨4 + 1, yv_10 (by omega) P (fun bE bN bW hB' => ih (e + 1) bE bN bW (by omega) hB') 4 0 aE aN aW rfl hB⟩
theorem yv_43 {post : Int32 → SY → Prop} {wt : Int32} {aZ aS aE aN aJ aW : Nat → Int32} {c : Nat} {W : Nat → Prop} (hG : ∀ M, M < 32 → ((nI M &&& wt) = wt ↔ ∀ j, W j → M.testBit j = true)) (hp : ∀ aD, (∀ s, s < 992 → nd_I aE aN W 0 (aD s) s) → wpY_start (fun r => ∃ n, wY_solve_84 post r (nI c) n 1 aZ aS aE aN aD aJ aW) (nI c, aZ, aS, aE, aN, aD, aJ, aW)) : ∀ d s aD, s + d = 992 → (∀ i, i < s → nd_I aE aN W 0 (aD i) i) → wY_solve_43 post wt (nI c) (d + 1) (nI s) aZ aS aE aN aD aJ aW := by
  intro d
  induction d with
  | zero =>
    intro s aD h hI
    have es : s = 992 := by omega
    subst es
    exact br_t (nI_le (a := 992) (by omega) (by omega)) (hp aD hI)
  | succ d ih =>
    intro s aD h hI
    have d1 : nI s / 31 = nI (s / 31) := pk_div (d := 31) (by omega) (by omega) (by omega)
    have hv : vp_in (nI s) 992 := vp_in_nI (by omega) (by omega)
    refine br_f (nI_ge (b := 992) (by omega) (by decide)) ⟨by decide, br_c (fun q => ⟨hv, nm_e (nm_r (nI_1 s) (ih (s + 1) _ (by omega) ?_))⟩) (fun q => ⟨hv, nm_e (nm_r (nI_1 s) (ih (s + 1) _ (by omega) ?_))⟩)⟩
    · rw [d1, hG _ (by omega)] at q
      rw [nI_clamp (by omega)]
      intro i hi
      by_cases c1 : i = s
      · subst c1
        rw [pk_us]
        exact Or.inl ⟨0, Nat.le_refl _, rfl, q, fun i hi => absurd hi (Nat.not_lt_zero i)⟩
      · rw [pk_un c1]
        exact hI i (by omega)
    · rw [d1, hG _ (by omega)] at q
      rw [nI_clamp (by omega)]
      intro i hi
      by_cases c1 : i = s
      · subst c1
        rw [pk_us]
        refine Or.inr ⟨rfl, fun m hm hd => q ?_⟩
        have : m = 0 := by omega
        subst this
        exact hd
      · rw [pk_un c1]
        exact hI i (by omega)
theorem yv_102 {post : Int32 → SY → Prop} {J : Int32 → (Nat → Int32) → (Nat → Int32) → (Nat → Int32) → (Nat → Int32) → (Nat → Int32) → (Nat → Int32) → (Nat → Int32) → Prop} {x2 : Int32} {aZ aS aE aN aJ aW : Nat → Int32} {c : Nat} {L : Nat → Nat} {sy : Nat → Nat → Nat} {W : Nat → Prop} {Q : Nat} (hQ : Q ≤ 30) (P : pc_P c L sy (nI c) aS aZ) (hT : au_T c L sy aE aN) (hJ : ∀ aD, (∀ s, s < 992 → au_Real c L (s % 31) → nd_I aE aN W (Q + 1) (aD s) s) → J (nI (Q + 1 + 1)) aZ aS aE aN aD aJ aW) : ∀ d s aD, s + d = 992 → (∀ i, i < 992 → au_Real c L (i % 31) → nd_I aE aN W (if i < s then Q + 1 else Q) (aD i) i) → wY_solve_102 post J x2 (nI (Q + 1)) (nI c) (d + 1) (nI s) aZ aS aE aN aD aJ aW := by
  intro d
  induction d with
  | zero =>
    intro s aD h hI
    have es : s = 992 := by omega
    subst es
    refine br_t (nI_le (a := 992) (by omega) (by omega)) (nm_r (nI_1 (Q + 1)) (hJ aD (fun i h1 h2 => ?_)))
    have := hI i h1 h2
    rw [if_pos h1] at this
    exact this
  | succ d ih =>
    intro s aD h hI
    have hs : s < 992 := by omega
    have hv : vp_in (nI s) 992 := vp_in_nI hs (by omega)
    have same : (au_Real c L (s % 31) → nd_I aE aN W (Q + 1) (aD s) s) → ∀ i, i < 992 → au_Real c L (i % 31) → nd_I aE aN W (if i < s + 1 then Q + 1 else Q) (aD i) i := by
      intro hs1 i h1 h2
      by_cases c1 : i = s
      · subst c1
        rw [if_pos (by omega)]
        exact hs1 h2
      · have := hI i h1 h2
        by_cases c2 : i < s
        · rw [if_pos c2] at this
          rw [if_pos (by omega)]
          exact this
        · rw [if_neg c2] at this
          rw [if_neg (by omega)]
          exact this
    have hcell : au_Real c L (s % 31) → nd_I aE aN W Q (aD s) s := by
      intro hr
      have := hI s hs hr
      rw [if_neg (by omega)] at this
      exact this
    refine br_f (nI_ge (b := 992) (by omega) (by decide)) ⟨hv, br_c (fun q => nm_r (nI_1 s) (ih (s + 1) aD (by omega) (same (fun hr => ?_)))) (fun q => ⟨by decide, ys_real (s % 31) (Nat.mod_lt _ (by decide)) P (fun hr => br_f (by decide) (ys_some s hT hs hr (fun hy => br_f (by decide) ⟨hv, nm_e (nm_r (nI_1 s) (ih (s + 1) _ (by omega) ?_))⟩) (fun hn => br_t rfl (nm_r (nI_1 s) (ih (s + 1) aD (by omega) (same (fun hr => ?_))))) rfl)) (fun hr => br_t rfl (nm_r (nI_1 s) (ih (s + 1) aD (by omega) (same (fun z => absurd z hr))))) (pk_rem (d := 31) (by omega) (by omega) (by omega))⟩)⟩
    · rw [nI_clamp (by omega)] at q
      exact nd_up q (hcell hr)
    · rw [nI_clamp (by omega)] at q
      obtain ⟨a1, a2, a3⟩ := nd_step q (by omega) (hcell hr)
      obtain ⟨v, v1, v2⟩ := hy
      rw [nI_pred] at v2
      obtain ⟨ne, nr, _, _, _, _, sp, _, t1, t2, _⟩ := au_st_eq hT hr hs v1
      have hb := hI _ t1 (by rw [t2]; exact sp.1)
      have hd := (nd_eq (by split <;> omega) (by split <;> omega) hb).mp v2
      have hD : au_D aE aN W (Q + 1) s := a3.mpr ⟨v, v1, hd⟩
      rw [nI_clamp (by omega)]
      intro i h1 h2
      by_cases c1 : i = s
      · subst c1
        rw [pk_us, if_pos (by omega)]
        exact Or.inl ⟨Q + 1, Nat.le_refl _, rfl, hD, fun m hm => a2 m (by omega)⟩
      · rw [pk_un c1]
        have := hI i h1 h2
        by_cases c2 : i < s
        · rw [if_pos c2] at this
          rw [if_pos (by omega)]
          exact this
        · rw [if_neg c2] at this
          rw [if_neg (by omega)]
          exact this
    · rw [nI_clamp (by omega)] at q
      obtain ⟨a1, a2, a3⟩ := nd_step q (by omega) (hcell hr)
      refine Or.inr ⟨a1, fun m hm hd => ?_⟩
      by_cases c1 : m ≤ Q
      · exact a2 m c1 hd
      · have em : m = Q + 1 := by omega
        subst em
        obtain ⟨v, v1, v2⟩ := a3.mp hd
        obtain ⟨ne, nr, _, _, _, _, sp, _, t1, t2, _⟩ := au_st_eq hT hr hs v1
        have hb := hI _ t1 (by rw [t2]; exact sp.1)
        refine hn ⟨v, v1, ?_⟩
        rw [nI_pred]
        exact (nd_eq (by split <;> omega) (by split <;> omega) hb).mpr v2
theorem yv_84 {post : Int32 → SY → Prop} {aZ aS aE aN aJ aW : Nat → Int32} {c : Nat} {L : Nat → Nat} {sy : Nat → Nat → Nat} {W : Nat → Prop} {fs : Nat} (hfs : fs < 992) (hfr : au_Real c L (fs % 31)) (P : pc_P c L sy (nI c) aS aZ) (hT : au_T c L sy aE aN) (hex : ∃ m, m ≤ 30 ∧ au_D aE aN W m fs) (hp : ∀ aD Q m, Q ≤ 30 → m ≤ Q → (∀ s, s < 992 → au_Real c L (s % 31) → nd_I aE aN W Q (aD s) s) → au_D aE aN W m fs → (∀ i, i < m → ¬ au_D aE aN W i fs) → post (nI m) (nI c, aZ, aS, aE, aN, aD, aJ, aW)) : ∀ d Q aD, Q + d = 30 → (∀ s, s < 992 → au_Real c L (s % 31) → nd_I aE aN W Q (aD s) s) → wY_solve_84 post (nI fs) (nI c) (d + 1) (nI (Q + 1)) aZ aS aE aN aD aJ aW := by
  have hv : vp_in (nI fs) 992 := vp_in_nI hfs (by omega)
  have ec : (nI fs).toNatClampNeg = fs := nI_clamp (by omega)
  intro d
  induction d with
  | zero =>
    intro Q aD h hI
    have eQ : Q = 30 := by omega
    subst eQ
    refine br_t (nI_lt (a := 30) (by omega) (by omega)) ⟨hv, ?_⟩
    rw [ec]
    rcases hI fs hfs hfr with ⟨m, h1, h2, h3, h4⟩ | ⟨h1, h2⟩
    · rw [h2]
      exact hp aD 30 m (by omega) h1 hI h3 h4
    · obtain ⟨m, m1, m2⟩ := hex
      exact absurd m2 (h2 m m1)
  | succ d ih =>
    intro Q aD h hI
    refine br_f (nI_nlt (a := 30) (by omega) (by decide)) ⟨hv, ?_⟩
    rcases hI fs hfs hfr with ⟨m, h1, h2, h3, h4⟩ | ⟨h1, h2⟩
    · refine br_t ?_ ⟨hv, ?_⟩
      · rw [ec, h2]
        exact nI_pos' (by omega)
      · rw [ec, h2]
        exact hp aD Q m (by omega) h1 hI h3 h4
    · refine br_f ?_ ⟨992 + 1, yv_102 (by omega) P hT (fun bD hb => ih (Q + 1) bD (by omega) hb) 992 0 aD rfl (fun i i1 i2 => ?_)⟩
      · rw [ec, h1]
        decide
      · rw [if_neg (Nat.not_lt_zero i)]
        exact hI i i1 i2
def yv_Len (L : Nat → Nat) (sy : Nat → Nat → Nat) (W : Nat → Prop) (m : Nat) : Prop := (∃ g, st_Ok L sy W g m) ∧ ∀ g n, st_Ok L sy W g n → m ≤ n
theorem yv_D0 {c : Nat} {L : Nat → Nat} {sy : Nat → Nat → Nat} {aE aN : Nat → Int32} {W : Nat → Prop} (hT : au_T c L sy aE aN) (hW : ∀ j, W j → j < c) {s : Nat} (hR : ∀ f, au_Rep c L sy f 0 s) (m : Nat) : au_D aE aN W m s ↔ ∃ g, st_Ok L sy W g m := by
  rw [au_D_iff hT hW m (fun _ => 0) 0 s (hR _)]
  constructor
  · rintro ⟨g, _, g2, g3⟩
    rw [Nat.zero_add] at g2 g3
    exact ⟨g, fun x hx => g2 x (Nat.zero_le _) hx, g3⟩
  · rintro ⟨g, g2, g3⟩
    refine ⟨g, fun x hx => absurd hx (Nat.not_lt_zero x), ?_⟩
    rw [Nat.zero_add]
    exact ⟨fun x _ hx => g2 x hx, g3⟩
theorem yv_solve {post : Int32 → SY → Prop} {wt : Int32} {aZ aS aE aN aD aJ aW : Nat → Int32} {c : Nat} {L : Nat → Nat} {sy : Nat → Nat → Nat} {W : Nat → Prop} (P : pc_P c L sy (nI c) aS aZ) (hWc : ∀ j, W j → j < c) (hG : ∀ M, M < 32 → ((nI M &&& wt) = wt ↔ ∀ j, W j → M.testBit j = true)) (hp : ∀ aE aN aD aW Q m, au_T c L sy aE aN → Q ≤ 30 → m ≤ Q → (∀ s, s < 992 → au_Real c L (s % 31) → nd_I aE aN W Q (aD s) s) → yv_Len L sy W m → post (nI m) (nI c, aZ, aS, aE, aN, aD, aJ, aW)) : wpY_solve post (nI c, aZ, aS, aE, aN, aD, aJ, aW) wt := by
  refine ⟨31 + 1, yv_2 P (fun bE bN bW hT => ⟨992 + 1, yv_43 (W := W) hG (fun bD hb => ys_start P (fun fs hfs hR => ?_)) 992 0 aD rfl (fun i hi => absurd hi (Nat.not_lt_zero i))⟩) 31 0 aE aN aW rfl (fun i x hx => by omega)⟩
  obtain ⟨g, hg⟩ := st_some_ok P.2.1 hWc (fun j hj => (P.2.2.1 j hj).2) (fun j hj x hx => (P.2.2.2 j hj x hx).2)
  refine ⟨30 + 1, yv_84 hfs (hR (fun _ => 0)).2.1 P hT ⟨30, Nat.le_refl _, (yv_D0 hT hWc hR 30).mpr ⟨g, hg⟩⟩ (fun cD Q m h1 h2 h3 h4 h5 => hp bE bN cD bW Q m hT h1 h2 h3 ⟨(yv_D0 hT hWc hR m).mp h4, fun f n hf => ?_⟩) 30 0 bD rfl (fun s h1 _ => hb s h1)⟩
  by_cases c1 : m ≤ n
  · exact c1
  · exact absurd ((yv_D0 hT hWc hR n).mpr ⟨f, hf⟩) (h5 n (by omega))
theorem yv_len_first {L : Nat → Nat} {sy : Nat → Nat → Nat} {W : Nat → Prop} {S : Nat → Nat} {n m : Nat} (hS : st_First L sy W S n) (h : yv_Len L sy W m) : m = n := by
  obtain ⟨⟨g, hg⟩, h2⟩ := h
  have a := h2 S n hS.1
  have b := (hS.2 g m hg).1
  omega
