/-! what the reference asks: is, endsWith, follow, real, step, start -/
theorem nb_0 : narrow .boolean (.int 0) = .int 0 := rfl
theorem nb_1 : narrow .boolean (.int 1) = .int 1 := rfl
theorem bi_or : ∀ a, a < 32 → ∀ b, b < 32 → nI a ||| nI b = nI (a ||| b) := by decide +kernel
theorem bi_sh : ∀ j, j < 5 → (1 : Int32) <<< (nI j &&& 31) = nI (2 ^ j) := by decide +kernel
theorem bi_3 : ∀ l, l < 4 → nI l &&& 3 = nI l := by decide +kernel
theorem ys_is {post : Int32 → Prop} {c : Nat} {aZ aS aE aN aD aJ aW : Nat → Int32} (hc : c ≤ 5) (i : Int32) (hy : ∀ j, j < c → i = nI j → post 1) (hn : (i < 0 ∨ nI c ≤ i) → post 0) : wpY_is post (nI c, aZ, aS, aE, aN, aD, aJ, aW) i := by
  rcases pk_ix i (n := c) (by omega) with h | h | ⟨j, hj, rfl⟩
  · exact br_t h (hn (Or.inl h))
  · exact br_c (fun _ => hn (Or.inr h)) (fun _ => br_t h (hn (Or.inr h)))
  · exact br_f (nI_pos (by omega)) (br_f (nI_ge hj (by omega)) (hy j hj rfl))
theorem ye_0 {post : Int32 → Prop} {x1 x2 x3 x5 fc : Int32} {aZ aS aE aN aD aJ aW : Nat → Int32} (h : post 0) (d : Nat) : wY_endsWith_25 post x1 x2 x3 fc aZ aS aE aN aD aJ aW (d + 1) 0 x5 :=
  br_c (fun _ => ⟨nb_0, h⟩) (fun _ => br_t rfl ⟨nb_0, h⟩)
theorem ye_1 {post : Int32 → Prop} {fc : Int32} {aZ aS aE aN aD aJ aW : Nat → Int32} {L : Nat → Nat} {sy : Nat → Nat → Nat} {w : Nat → Nat} {n j k : Nat} (hn7 : n ≤ 7) (hj : j < 5) (hkn : k ≤ n) (hkl : k ≤ L j) (hl6 : L j ≤ 6) (hw : ∀ x, x < n → aW x = nI (w x) ∧ w x < 4) (hs : ∀ x, x < L j → aS (6 * j + x) = nI (sy j x) ∧ sy j x < 4) (hy : st_End L sy w n j k → post 1) (hn : ¬ st_End L sy w n j k → post 0) : ∀ d i, i + d = k → (∀ x, x < i → w (n - k + x) = sy j x) → wY_endsWith_25 post (nI n) (nI j) (nI k) fc aZ aS aE aN aD aJ aW (d + 1) 1 (nI i) := by
  intro d
  induction d with
  | zero =>
    intro i hi h
    have e : i = k := by omega
    subst e
    exact br_t (nI_le (Nat.le_refl _) (by omega)) ⟨nb_1, hy ⟨hkn, hkl, h⟩⟩
  | succ d ih =>
    intro i hi h
    have e1 : nI n - nI k + nI i = nI (n - k + i) := by rw [pk_sub hkn, nI_add]
    have e2 : 6 * nI j + nI i = nI (6 * j + i) := by rw [nu_6', nI_add]
    obtain ⟨w1, w2⟩ := hw (n - k + i) (by omega)
    obtain ⟨s1, s2⟩ := hs i (by omega)
    refine br_f (nI_ge (by omega) (by omega)) (br_f (by decide) ⟨pk_in (n - k + i) 7 (by omega) e1, pk_in (6 * j + i) 30 (by omega) e2, pk_eq (w (n - k + i)) (sy j i) (fun q => nm_r (nI_1 i) (ih (i + 1) (by omega) (lt_s h q))) (fun q => nm_e (ye_0 (hn ?_) d)) (by rw [pk_cl _ e1]; exact w1) (by rw [pk_cl _ e2]; exact s1)⟩)
    rintro ⟨_, _, z⟩
    exact q (z i (by omega))
theorem ye_ends {post : Int32 → Prop} {fc x1 x2 x3 : Int32} {aZ aS aE aN aD aJ aW : Nat → Int32} {L : Nat → Nat} {sy : Nat → Nat → Nat} {w : Nat → Nat} (n j k : Nat) (hn7 : n ≤ 7) (hj : j < 5) (hz : aZ j = nI (L j)) (hk : k ≤ 6) (hl6 : L j ≤ 6) (hw : ∀ x, x < n → aW x = nI (w x) ∧ w x < 4) (hs : ∀ x, x < L j → aS (6 * j + x) = nI (sy j x) ∧ sy j x < 4) (hy : st_End L sy w n j k → post 1) (hn : ¬ st_End L sy w n j k → post 0) (e1 : x1 = nI n) (e2 : x2 = nI j) (e3 : x3 = nI k) : wpY_endsWith post (fc, aZ, aS, aE, aN, aD, aJ, aW) x1 x2 x3 := by
  subst e1 e2 e3
  refine pk_lt n k (fun h => ⟨0 + 1, ye_0 (hn ?_) 0⟩) (fun h => ⟨vp_in_nI hj (by omega), pk_lt (L j) k (fun h2 => ⟨0 + 1, ye_0 (hn ?_) 0⟩) (fun h2 => ⟨k + 1, ye_1 hn7 hj h h2 hl6 hw hs hy hn k 0 (by omega) (fun x hx => absurd hx (Nat.not_lt_zero x))⟩) (by rw [nI_clamp (by omega)]; exact hz) rfl⟩)
  · rintro ⟨z, _⟩
    omega
  · rintro ⟨_, z, _⟩
    omega
/-- what follow knows when it is at length len and read j -/
def fo_I (c : Nat) (L : Nat → Nat) (sy : Nat → Nat → Nat) (w : Nat → Nat) (n len j found full : Nat) : Prop := found < 31 ∧ full < 32 ∧ au_Real c L found ∧ st_End L sy w n (au_ei found) (au_ek found) ∧ au_ek found ≤ len ∧ (∀ i, i < c → ∀ k, (k < len ∨ (k = len ∧ i < j)) → st_End L sy w n i k → k ≤ au_ek found) ∧ ∀ i, i < c → (full.testBit i = true ↔ 1 ≤ L i ∧ (L i < len ∨ (L i = len ∧ i < j)) ∧ st_End L sy w n i (L i))
theorem fo_0 {c : Nat} {L : Nat → Nat} {sy : Nat → Nat → Nat} {w : Nat → Nat} {n : Nat} : fo_I c L sy w n 1 0 0 0 := by
  refine ⟨by omega, by omega, Or.inl rfl, ⟨Nat.zero_le _, Nat.zero_le _, fun x hx => absurd hx (Nat.not_lt_zero x)⟩, Nat.zero_le _, fun i hi k hk _ => ?_, fun i hi => ?_⟩
  · show k ≤ 0
    omega
  · rw [Nat.zero_testBit]
    constructor
    · intro h
      exact absurd h (by decide)
    · rintro ⟨a, b, _⟩
      omega
theorem fo_no {c : Nat} {L : Nat → Nat} {sy : Nat → Nat → Nat} {w : Nat → Nat} {n len j found full : Nat} (h : fo_I c L sy w n len j found full) (hn : ¬ st_End L sy w n j len) : fo_I c L sy w n len (j + 1) found full := by
  obtain ⟨a1, a2, a3, a4, a5, a6, a7⟩ := h
  refine ⟨a1, a2, a3, a4, a5, fun i hi k hk he => ?_, fun i hi => ?_⟩
  · by_cases c1 : k = len ∧ i = j
    · obtain ⟨rfl, rfl⟩ := c1
      exact absurd he hn
    · exact a6 i hi k (by omega) he
  · rw [a7 i hi]
    constructor
    · rintro ⟨b1, b2, b3⟩
      exact ⟨b1, by omega, b3⟩
    · rintro ⟨b1, b2, b3⟩
      refine ⟨b1, ?_, b3⟩
      by_cases c1 : L i = len ∧ i = j
      · obtain ⟨c2, c3⟩ := c1
        subst c3
        rw [c2] at b3
        exact absurd b3 hn
      · omega
theorem fo_yes {c : Nat} {L : Nat → Nat} {sy : Nat → Nat → Nat} {w : Nat → Nat} {n len j found full : Nat} (hc : c ≤ 5) (hj : j < c) (h1 : 1 ≤ len) (h6 : len ≤ 6) (h : fo_I c L sy w n len j found full) (hy : st_End L sy w n j len) {full' : Nat} (hf : (L j = len → full' = full ||| 2 ^ j) ∧ (L j ≠ len → full' = full)) : fo_I c L sy w n len (j + 1) (6 * j + len) full' := by
  obtain ⟨a1, a2, a3, a4, a5, a6, a7⟩ := h
  have ek : au_ek (6 * j + len) = len := by
    unfold au_ek
    rw [if_neg (by omega)]
    omega
  have ei : au_ei (6 * j + len) = j := by
    unfold au_ei
    rw [if_neg (by omega)]
    omega
  have hl := hy.2.1
  refine ⟨by omega, ?_, Or.inr ⟨by omega, ?_⟩, by rw [ek, ei]; exact hy, by omega, fun i hi k hk he => by omega, fun i hi => ?_⟩
  · by_cases c1 : L j = len
    · rw [hf.1 c1]
      have h2 : 2 ^ j < 2 ^ 5 := Nat.pow_lt_pow_right (by decide) (by omega)
      exact Nat.or_lt_two_pow (n := 5) (by omega) h2
    · rw [hf.2 c1]; exact a2
  · rw [show (6 * j + len - 1) / 6 = j by omega]
    omega
  · by_cases c1 : L j = len
    · rw [hf.1 c1, Nat.testBit_or, Bool.or_eq_true, a7 i hi, Nat.testBit_two_pow, decide_eq_true_eq]
      constructor
      · rintro (⟨b1, b2, b3⟩ | rfl)
        · exact ⟨b1, by omega, b3⟩
        · exact ⟨by omega, by omega, by rw [c1]; exact hy⟩
      · rintro ⟨b1, b2, b3⟩
        by_cases c2 : j = i
        · exact Or.inr c2
        · exact Or.inl ⟨b1, by omega, b3⟩
    · rw [hf.2 c1, a7 i hi]
      constructor
      · rintro ⟨b1, b2, b3⟩
        exact ⟨b1, by omega, b3⟩
      · rintro ⟨b1, b2, b3⟩
        refine ⟨b1, ?_, b3⟩
        by_cases c2 : j = i
        · subst c2
          omega
        · omega
theorem fo_len {c : Nat} {L : Nat → Nat} {sy : Nat → Nat → Nat} {w : Nat → Nat} {n len j found full : Nat} (hj : c ≤ j) (h : fo_I c L sy w n len j found full) : fo_I c L sy w n (len + 1) 0 found full := by
  obtain ⟨a1, a2, a3, a4, a5, a6, a7⟩ := h
  refine ⟨a1, a2, a3, a4, by omega, fun i hi k hk he => a6 i hi k (by omega) he, fun i hi => ?_⟩
  rw [a7 i hi]
  constructor
  · rintro ⟨b1, b2, b3⟩
    exact ⟨b1, by omega, b3⟩
  · rintro ⟨b1, b2, b3⟩
    exact ⟨b1, by omega, b3⟩
theorem fo_94 {post : SY → Prop} {J : Int32 → Int32 → Int32 → Prop} {x1 x2 : Int32} {aZ aS aE aN aD aJ aW : Nat → Int32} {c : Nat} {L : Nat → Nat} {sy : Nat → Nat → Nat} {w : Nat → Nat} {k len : Nat} (P : pc_P c L sy (nI c) aS aZ) (hk : k ≤ 6) (hw : ∀ x, x < k + 1 → aW x = nI (w x) ∧ w x < 4) (h1 : 1 ≤ len) (h6 : len ≤ 6) (hJ : ∀ found full, fo_I c L sy w (k + 1) (len + 1) 0 found full → J (nI found) (nI full) (nI (len + 1))) : ∀ d j found full, j + d = c → fo_I c L sy w (k + 1) len j found full → wY_follow_94 post J x1 x2 (nI k) (nI len) (nI c) aZ aS aE aN aD aJ aW (d + 1) (nI found) (nI full) (nI j) := by
  obtain ⟨_, hc, hL, hs⟩ := P
  intro d
  induction d with
  | zero =>
    intro j found full hj h
    exact br_t (nI_le (by omega) (by omega)) (nm_r (nI_1 len) (hJ found full (fo_len (by omega) h)))
  | succ d ih =>
    intro j found full hj h
    obtain ⟨l1, l2⟩ := hL j (by omega)
    have h2 : 2 ^ j < 2 ^ 5 := Nat.pow_lt_pow_right (by decide) (by omega)
    have hf := h.2.1
    refine br_f (nI_ge (by omega) (by omega)) (ye_ends (k + 1) j len (by omega) (by omega) l1 h6 l2 hw (hs j (by omega)) (fun hy => ?_) (fun hn => ?_) (nI_1 k) rfl rfl)
    · have e : 1 + 6 * nI j + nI len - 1 = nI (6 * j + len) := by
        rw [nu_6', show (1 : Int32) = nI 1 from rfl, nI_add, nI_add, pk_sub (by omega)]
        exact congrArg nI (by omega)
      refine br_f (by decide) (nm_r e ⟨vp_in_nI (by omega) (by omega), pk_eq (L j) len (fun q => nm_r ?_ (nm_r (nI_1 j) (ih (j + 1) (6 * j + len) (full ||| 2 ^ j) (by omega) (fo_yes hc (by omega) h1 h6 h hy ⟨fun _ => rfl, fun z => absurd q z⟩)))) (fun q => nm_r (nI_1 j) (ih (j + 1) (6 * j + len) full (by omega) (fo_yes hc (by omega) h1 h6 h hy ⟨fun z => absurd z q, fun _ => rfl⟩))) (by rw [nI_clamp (by omega)]; exact l1) rfl⟩)
      rw [bi_sh j (by omega), bi_or full hf (2 ^ j) h2]
    · exact br_t rfl (nm_r (nI_1 j) (ih (j + 1) found full (by omega) (fo_no h hn)))
theorem fo_84 {post : SY → Prop} {e v : Nat} {aZ aS aE aN aD aJ aW : Nat → Int32} {c : Nat} {L : Nat → Nat} {sy : Nat → Nat → Nat} {w : Nat → Nat} {k : Nat} (he : e < 31) (hv : v < 4) (P : pc_P c L sy (nI c) aS aZ) (hk : k ≤ 6) (hw : ∀ x, x < k + 1 → aW x = nI (w x) ∧ w x < 4) (hp : ∀ found full, fo_I c L sy w (k + 1) 7 0 found full → post (nI c, aZ, aS, upd aE (4 * e + v) (nI found), upd aN (4 * e + v) (nI full), aD, aJ, aW)) : ∀ d len found full, len + d = 7 → 1 ≤ len → fo_I c L sy w (k + 1) len 0 found full → wY_follow_84 post (nI e) (nI v) (nI k) (nI c) aZ aS aE aN aD aJ aW (d + 1) (nI found) (nI full) (nI len) := by
  have e4 : 4 * nI e + nI v = nI (4 * e + v) := by
    rw [show (4 : Int32) = nI 4 from rfl, pk_mul, nI_add]
  intro d
  induction d with
  | zero =>
    intro len found full h h1 hI
    have el : len = 7 := by omega
    subst el
    refine br_t (nI_lt (a := 6) (by omega) (by omega)) ⟨pk_in (4 * e + v) 124 (by omega) e4, nm_e ⟨pk_in (4 * e + v) 124 (by omega) e4, nm_e ?_⟩⟩
    rw [pk_cl _ e4]
    exact hp found full hI
  | succ d ih =>
    intro len found full h h1 hI
    refine br_f (nI_nlt (a := 6) (by omega) (by decide)) ⟨c + 1, fo_94 P hk hw h1 (by omega) (fun fo fu hI' => ih (len + 1) fo fu (by omega) (by omega) hI') c 0 found full (by omega) hI⟩
