/-! follow whole, real, step, start, some -/
theorem fo_spec {c : Nat} {L : Nat → Nat} {sy : Nat → Nat → Nat} {e v found full : Nat} (hL : ∀ j, j < c → L j ≤ 6) (h : fo_I c L sy (au_wd sy e v) (au_ek e + 1) 7 0 found full) : found < 31 ∧ full < 32 ∧ au_Spec c L sy e v found full := by
  obtain ⟨a1, a2, a3, a4, a5, a6, a7⟩ := h
  refine ⟨a1, a2, a3, a4, fun j hj k hk => a6 j hj k (by have := hL j hj; have := hk.2.1; omega) hk, fun j hj => ?_⟩
  rw [a7 j hj]
  have := hL j hj
  constructor
  · rintro ⟨b1, b2, b3⟩
    exact ⟨b1, b3⟩
  · rintro ⟨b1, b3⟩
    exact ⟨b1, by omega, b3⟩
theorem fo_36 {post : SY → Prop} {e v : Nat} {aZ aS aE aN aD aJ : Nat → Int32} {c : Nat} {L : Nat → Nat} {sy : Nat → Nat → Nat} (he : e < 31) (hv : v < 4) (P : pc_P c L sy (nI c) aS aZ) (hr : au_Real c L e) (hp : ∀ aW found full, found < 31 → full < 32 → au_Spec c L sy e v found full → post (nI c, aZ, aS, upd aE (4 * e + v) (nI found), upd aN (4 * e + v) (nI full), aD, aJ, aW)) : ∀ d i aW, i + d = au_ek e → (∀ x, x < i → aW x = nI (sy (au_ei e) x) ∧ sy (au_ei e) x < 4) → wY_follow_36 post (nI e) (nI v) (nI (au_ek e)) (nI (au_ei e)) (nI c) (d + 1) (nI i) aZ aS aE aN aD aJ aW := by
  have hk6 : au_ek e ≤ 6 := by
    unfold au_ek
    split <;> omega
  have hL := P.2.2.1
  have hs := P.2.2.2
  intro d
  induction d with
  | zero =>
    intro i aW hi h
    refine br_t (nI_le (by omega) (by omega)) ⟨vp_in_nI (by omega) (by omega), nm_e ⟨6 + 1, fo_84 (w := au_wd sy e v) he hv P hk6 ?_ (fun found full hI => ?_) 6 1 0 0 rfl (Nat.le_refl _) fo_0⟩⟩
    · rw [nI_clamp (by omega)]
      intro x hx
      unfold au_wd
      by_cases cx : x < au_ek e
      · rw [if_pos cx, pk_un (by omega)]
        exact h x (by omega)
      · have ex : x = au_ek e := by omega
        rw [if_neg cx, ex, pk_us]
        exact ⟨rfl, hv⟩
    · obtain ⟨f1, f2, f3⟩ := fo_spec (fun j hj => (hL j hj).2) hI
      exact hp _ found full f1 f2 f3
  | succ d ih =>
    intro i aW hi h
    have hreal : au_ei e < c ∧ i < L (au_ei e) ∧ au_ei e < 5 := by
      have hc := P.2.1
      rcases hr with h0 | ⟨r1, r2⟩
      · subst h0
        have : au_ek 0 = 0 := rfl
        omega
      · unfold au_ek at hi
        unfold au_ei
        split at hi
        · omega
        · rename_i h0
          rw [if_neg h0]
          omega
    obtain ⟨r1, r2, r3⟩ := hreal
    have l6 := (hL _ r1).2
    have e1 : 6 * nI (au_ei e) + nI i = nI (6 * au_ei e + i) := by rw [nu_6', nI_add]
    refine br_f (nI_ge (by omega) (by omega)) ⟨pk_in (6 * au_ei e + i) 30 (by omega) e1, vp_in_nI (by omega) (by omega), nm_e (nm_r (nI_1 i) (ih (i + 1) _ (by omega) ?_))⟩
    rw [nI_clamp (by omega), pk_cl _ e1]
    intro x hx
    by_cases cx : x = i
    · subst cx
      rw [pk_us]
      exact hs _ r1 x r2
    · rw [pk_un cx]
      exact h x (by omega)
theorem fo_follow {post : SY → Prop} {e v : Nat} {aZ aS aE aN aD aJ aW : Nat → Int32} {c : Nat} {L : Nat → Nat} {sy : Nat → Nat → Nat} (he : e < 31) (hv : v < 4) (P : pc_P c L sy (nI c) aS aZ) (hr : au_Real c L e) (hp : ∀ aW found full, found < 31 → full < 32 → au_Spec c L sy e v found full → post (nI c, aZ, aS, upd aE (4 * e + v) (nI found), upd aN (4 * e + v) (nI full), aD, aJ, aW)) : wpY_follow post (nI c, aZ, aS, aE, aN, aD, aJ, aW) (nI e) (nI v) := by
  have h := fo_36 (aE := aE) (aN := aN) (aD := aD) (aJ := aJ) he hv P hr hp (au_ek e) 0 aW (by omega) (fun x hx => absurd hx (Nat.not_lt_zero x))
  by_cases c0 : e = 0
  · subst c0
    exact br_t rfl (br_t rfl ⟨_, h⟩)
  · have ne : ¬ nI e = 0 := nI_ne0 (by omega) (by omega)
    have e1 : nI e - 1 = nI (e - 1) := pk_sub (b := 1) (by omega)
    have e2 : nI e - 1 - (nI e - 1) / 6 * 6 + 1 = nI (au_ek e) := by
      rw [e1, show (6 : Int32) = nI 6 from rfl, pk_rem (by omega) (by omega) (by omega), nI_1]
      unfold au_ek
      rw [if_neg c0]
    have e3 : (nI e - 1) / 6 = nI (au_ei e) := by
      rw [e1, show (6 : Int32) = nI 6 from rfl, pk_div (by omega) (by omega) (by omega)]
      unfold au_ei
      rw [if_neg c0]
    refine br_f ne ⟨by decide, ?_⟩
    rw [e2]
    exact br_f ne ⟨by decide, nm_r e3 ⟨_, h⟩⟩
theorem ys_real {post : Int32 → Prop} {x0 : Int32} {aZ aS aE aN aD aJ aW : Nat → Int32} {c : Nat} {L : Nat → Nat} {sy : Nat → Nat → Nat} (e : Nat) (he : e < 31) (P : pc_P c L sy (nI c) aS aZ) (hy : au_Real c L e → post 1) (hn : ¬ au_Real c L e → post 0) (e0 : x0 = nI e) : wpY_real post (nI c, aZ, aS, aE, aN, aD, aJ, aW) x0 := by
  subst e0
  obtain ⟨_, hc, hL, hs⟩ := P
  by_cases c0 : e = 0
  · subst c0
    exact br_t rfl (hy (Or.inl rfl))
  · have e1 : nI e - 1 = nI (e - 1) := pk_sub (b := 1) (by omega)
    have e2 : nI e - 1 - (nI e - 1) / 6 * 6 = nI ((e - 1) % 6) := by
      rw [e1, show (6 : Int32) = nI 6 from rfl, pk_rem (by omega) (by omega) (by omega)]
    have e3 : (nI e - 1) / 6 = nI ((e - 1) / 6) := by
      rw [e1, show (6 : Int32) = nI 6 from rfl, pk_div (by omega) (by omega) (by omega)]
    refine br_f (nI_ne0 (by omega) (by omega)) ⟨by decide, ys_is hc _ (fun j hj ej => ?_) (fun h => br_t rfl (hn ?_))⟩
    · rw [e3, nI_eq (by omega) (by omega)] at ej
      obtain ⟨l1, l2⟩ := hL j hj
      refine br_f (by decide) ⟨by decide, by decide, pk_in ((e - 1) / 6) 5 (by omega) e3, pk_le (L j) ((e - 1) % 6) (fun q => hn ?_) (fun q => hy (Or.inr ⟨by omega, by rw [ej]; exact q⟩)) (by rw [pk_cl _ e3, ej]; exact l1) e2⟩
      rintro (h | ⟨_, h⟩)
      · exact c0 h
      · rw [ej] at h
        omega
    · rw [e3] at h
      rintro (z | ⟨z, _⟩)
      · exact c0 z
      · rcases h with h | h
        · exact nI_pos (by omega) h
        · rw [nI_leI (by omega) (by omega)] at h
          omega
theorem ys_step {post : Int32 → Prop} {x0 x1 fc : Int32} {aZ aS aE aN aD aJ aW : Nat → Int32} {c : Nat} {L : Nat → Nat} {sy : Nat → Nat → Nat} (s v : Nat) (hT : au_T c L sy aE aN) (hs : s < 992) (hr : au_Real c L (s % 31)) (hv : v < 4) (hp : post (nI (au_st aE aN s v))) (e0 : x0 = nI s) (e1 : x1 = nI v) : wpY_step post (fc, aZ, aS, aE, aN, aD, aJ, aW) x0 x1 := by
  subst e0 e1
  obtain ⟨ne, nr, q1, q2, q3, q4, _, e, _⟩ := au_st_eq hT hr hs hv
  rw [e] at hp
  have d1 : nI s / 31 = nI (s / 31) := pk_div (d := 31) (by omega) (by omega) (by omega)
  have d2 : nI s - nI s / 31 * 31 = nI (s % 31) := pk_rem (d := 31) (by omega) (by omega) (by omega)
  have e4 : 4 * nI (s % 31) + nI v = nI (4 * (s % 31) + v) := by
    rw [show (4 : Int32) = nI 4 from rfl, pk_mul, nI_add]
  refine ⟨by decide, nm_r d1 ⟨by decide, nm_r d2 ⟨pk_in (4 * (s % 31) + v) 124 (by omega) e4, pk_in (4 * (s % 31) + v) 124 (by omega) e4, ?_⟩⟩⟩
  rw [pk_cl _ e4, q1, q2, bi_or _ (by omega) _ q4, show (31 : Int32) = nI 31 from rfl, pk_mul, nI_add]
  exact hp
theorem ys_start_l {post : Int32 → Prop} {aZ aS aE aN aD aJ aW : Nat → Int32} {c : Nat} {L : Nat → Nat} {sy : Nat → Nat → Nat} (P : pc_P c L sy (nI c) aS aZ) (hp : ∀ M, M < 32 → (∀ j, j < c → (M.testBit j = true ↔ L j = 0)) → post (nI (31 * M))) : ∀ d i M, i + d = c → M < 32 → (∀ j, j < c → (M.testBit j = true ↔ L j = 0 ∧ j < i)) → wY_start_4 post (nI c) aZ aS aE aN aD aJ aW (d + 1) (nI M) (nI i) := by
  obtain ⟨_, hc, hL, hs⟩ := P
  intro d
  induction d with
  | zero =>
    intro i M hi hM h
    refine br_t (nI_le (by omega) (by omega)) ?_
    rw [show (31 : Int32) = nI 31 from rfl, pk_mul]
    refine hp M hM (fun j hj => ?_)
    rw [h j hj]
    exact ⟨fun z => z.1, fun z => ⟨z, by omega⟩⟩
  | succ d ih =>
    intro i M hi hM h
    obtain ⟨l1, l2⟩ := hL i (by omega)
    have h2 : 2 ^ i < 2 ^ 5 := Nat.pow_lt_pow_right (by decide) (by omega)
    refine br_f (nI_ge (by omega) (by omega)) ⟨vp_in_nI (by omega) (by omega), pk_eq (L i) 0 (fun q => nm_r ?_ (nm_r (nI_1 i) (ih (i + 1) (M ||| 2 ^ i) (by omega) (Nat.or_lt_two_pow (n := 5) (by omega) h2) (fun j hj => ?_)))) (fun q => nm_r (nI_1 i) (ih (i + 1) M (by omega) hM (fun j hj => ?_))) (by rw [nI_clamp (by omega)]; exact l1) rfl⟩
    · rw [bi_sh i (by omega), bi_or M hM (2 ^ i) h2]
    · rw [Nat.testBit_or, Bool.or_eq_true, h j hj, Nat.testBit_two_pow, decide_eq_true_eq]
      constructor
      · rintro (⟨b1, b2⟩ | rfl)
        · exact ⟨b1, by omega⟩
        · exact ⟨q, by omega⟩
      · rintro ⟨b1, b2⟩
        by_cases cj : i = j
        · exact Or.inr cj
        · exact Or.inl ⟨b1, by omega⟩
    · rw [h j hj]
      constructor
      · rintro ⟨b1, b2⟩
        exact ⟨b1, by omega⟩
      · rintro ⟨b1, b2⟩
        refine ⟨b1, ?_⟩
        by_cases cj : i = j
        · subst cj
          exact absurd b1 q
        · omega
theorem ys_start {post : Int32 → Prop} {aZ aS aE aN aD aJ aW : Nat → Int32} {c : Nat} {L : Nat → Nat} {sy : Nat → Nat → Nat} (P : pc_P c L sy (nI c) aS aZ) (hp : ∀ s, s < 992 → (∀ f, au_Rep c L sy f 0 s) → post (nI s)) : wpY_start post (nI c, aZ, aS, aE, aN, aD, aJ, aW) := by
  refine ⟨c + 1, ys_start_l P (fun M hM h => hp (31 * M) (by omega) (fun f => ?_)) c 0 0 (by omega) (by omega) (fun j hj => ?_)⟩
  · unfold au_Rep
    have e1 : 31 * M % 31 = 0 := by omega
    have e2 : 31 * M / 31 = M := by omega
    rw [e1, e2]
    refine ⟨by omega, Or.inl rfl, fun j hj => ?_, ⟨Nat.zero_le _, Nat.zero_le _, fun x hx => absurd hx (Nat.not_lt_zero x)⟩, fun j hj k hk => hk.1⟩
    rw [h j hj]
    constructor
    · intro z
      exact ⟨0, by omega, fun x hx => by omega⟩
    · rintro ⟨p, p1, _⟩
      omega
  · rw [Nat.zero_testBit]
    constructor
    · intro h
      exact absurd h (by decide)
    · rintro ⟨_, h⟩
      omega
theorem ys_some_l {post : Int32 → Prop} {x2 fc : Int32} {aZ aS aE aN aD aJ aW : Nat → Int32} {c : Nat} {L : Nat → Nat} {sy : Nat → Nat → Nat} {s : Nat} (hT : au_T c L sy aE aN) (hs : s < 992) (hr : au_Real c L (s % 31)) (hy : (∃ v, v < 4 ∧ aD (au_st aE aN s v) = x2) → post 1) (hn : (¬ ∃ v, v < 4 ∧ aD (au_st aE aN s v) = x2) → post 0) : ∀ d v b, v + d = 4 → ((b = 0 ∧ ∀ i, i < v → ¬ aD (au_st aE aN s i) = x2) ∨ (b = 1 ∧ ∃ i, i < 4 ∧ aD (au_st aE aN s i) = x2)) → wY_some_5 post (nI s) x2 fc aZ aS aE aN aD aJ aW (d + 1) b (nI v) := by
  intro d
  induction d with
  | zero =>
    intro v b h hb
    have ev : v = 4 := by omega
    subst ev
    refine br_t (nI_le (a := 4) (by omega) (by omega)) ?_
    rcases hb with ⟨rfl, hb⟩ | ⟨rfl, hb⟩
    · exact ⟨nb_0, hn (fun ⟨i, h1, h2⟩ => hb i h1 h2)⟩
    · exact ⟨nb_1, hy hb⟩
  | succ d ih =>
    intro v b h hb
    obtain ⟨_, _, _, _, _, _, _, _, hst, _⟩ := au_st_eq hT hr hs (v := v) (by omega)
    refine br_f (nI_ge (b := 4) (by omega) (by decide)) (ys_step s v hT hs hr (by omega) ?_ rfl rfl)
    rcases hb with ⟨rfl, hb⟩ | ⟨rfl, hb⟩
    · refine br_t rfl ⟨vp_in_nI hst (by omega), br_c (fun q => nm_r (nI_1 v) (ih (v + 1) 1 (by omega) (Or.inr ⟨rfl, v, by omega, ?_⟩))) (fun q => nm_r (nI_1 v) (ih (v + 1) 0 (by omega) (Or.inl ⟨rfl, lt_s hb ?_⟩)))⟩
      · rw [nI_clamp (by omega)] at q
        exact q
      · rw [nI_clamp (by omega)] at q
        exact q
    · exact br_f (by decide) (nm_r (nI_1 v) (ih (v + 1) 1 (by omega) (Or.inr ⟨rfl, hb⟩)))
theorem ys_some {post : Int32 → Prop} {x0 x2 fc : Int32} {aZ aS aE aN aD aJ aW : Nat → Int32} {c : Nat} {L : Nat → Nat} {sy : Nat → Nat → Nat} (s : Nat) (hT : au_T c L sy aE aN) (hs : s < 992) (hr : au_Real c L (s % 31)) (hy : (∃ v, v < 4 ∧ aD (au_st aE aN s v) = x2) → post 1) (hn : (¬ ∃ v, v < 4 ∧ aD (au_st aE aN s v) = x2) → post 0) (e0 : x0 = nI s) : wpY_some post (fc, aZ, aS, aE, aN, aD, aJ, aW) x0 x2 := by
  subst e0
  exact ⟨4 + 1, ys_some_l hT hs hr hy hn 4 0 0 rfl (Or.inl ⟨rfl, fun i hi => absurd hi (Nat.not_lt_zero i)⟩)⟩
