/-! joinInOrder and findJoin -/
theorem xj_40 {post : SX → Prop} {J : Int32 → Int32 → Int32 → Int32 → (Nat → Int32) → (Nat → Int32) → (Nat → Int32) → (Nat → Int32) → (Nat → Int32) → Prop} {x1 x3 fc tl jl : Int32} {aS aL aO aT aJ : Nat → Int32} {p : Nat} (h : J (nI (p + 1)) fc tl jl aS aL aO aT aJ) : wX_joinInOrder_40 post J x1 (nI p) x3 fc tl jl aS aL aO aT aJ :=
  br_t rfl (nm_r (nI_1 p) h)
theorem xj_41 {post : SX → Prop} {J : Int32 → Int32 → Int32 → Int32 → (Nat → Int32) → (Nat → Int32) → (Nat → Int32) → (Nat → Int32) → (Nat → Int32) → Prop} {x1 fc jl : Int32} {aS aL aO aT aJ : Nat → Int32} {p r l t : Nat} (hr : r < 5) (hl : aL r = nI l) (hl6 : l ≤ 6) (ht : t + l ≤ 30) (hskip : ∀ q, q + l ≤ t → tx_St aT aS 0 r l q → J (nI (p + 1)) fc (nI t) jl aS aL aO aT aJ) (hext : (∀ b, b + l ≤ t → ¬ tx_St aT aS 0 r l b) → ∀ s, s ≤ t → s ≤ l → tx_Ov aT aS 0 t r s → (∀ q, s < q → q ≤ t → q ≤ l → ¬ tx_Ov aT aS 0 t r q) → ∀ a, (∀ x, x < t → a x = aT x) → (∀ y, y < l - s → a (t + y) = aS (6 * r + (s + y))) → J (nI (p + 1)) fc (nI (t + (l - s))) jl aS aL aO a aJ) : wX_joinInOrder_41 post J x1 (nI p) (nI r) 1 fc (nI t) jl aS aL aO aT aJ := by
  refine br_f (by decide) (xs_place_trial 0 t r l hr hl hl6 (by omega) (fun q h1 h2 _ => br_f (fun e => nd_m1 (n := q) (by omega) e.symm) (nm_r (nI_1 p) (hskip q h1 h2))) (fun h => br_t rfl ?_) rfl rfl rfl)
  exact xs_over_trial 0 t r l hr hl hl6 (by omega) (fun k k1 k2 k3 k4 => xt_ext hr hl hl6 k2 (by omega) (fun a a1 a2 => nm_r (nI_1 p) (hext h k k1 k2 k3 k4 a a1 a2))) rfl rfl rfl
theorem xj_loop {post : SX → Prop} {c : Nat} {L : Nat → Nat} {sy : Nat → Nat → Nat} {W : Nat → Prop} {ch jl : Int32} {aS aL aO aJ : Nat → Int32} {o pl S : Nat → Nat} {nS : Nat} (P : pc_P c L sy (nI c) aS aL) (hWc : ∀ j, W j → j < c) (hW : ∀ r, r < c → ((ch >>> (nI r &&& 31)) &&& 1 = 1 ↔ W r)) (hS : st_First L sy W S nS) (hpl : ∀ j, W j → st_At L sy S nS j (pl j) ∧ ∀ p, st_At L sy S nS j p → pl j ≤ p) (ho : ∀ x, x < 5 → aO x = nI (o x) ∧ o x < 5) (hsur : ∀ j, W j → ∃ x, x < 5 ∧ o x = j) (hp : ∀ aT t f, t ≤ 30 → (∀ x, x < t → aT x = nI (f x) ∧ f x < 4) → ji_I L sy W o pl S nS 5 f t → post (nI c, nI t, jl, aS, aL, aO, aT, aJ)) : ∀ d p aT t f, p + d = 5 → t ≤ 6 * p → (∀ x, x < t → aT x = nI (f x) ∧ f x < 4) → ji_I L sy W o pl S nS p f t → wX_joinInOrder_7 post ch (d + 1) (nI p) (nI c) (nI t) jl aS aL aO aT aJ := by
  obtain ⟨_, hc, hL, hs⟩ := P
  intro d
  induction d with
  | zero =>
    intro p aT t f h ht hf hI
    have e : p = 5 := by omega
    subst e
    exact br_t (nI_le (a := 5) (by omega) (by omega)) (hp aT t f (by omega) hf hI)
  | succ d ih =>
    intro p aT t f h ht hf hI
    obtain ⟨o1, o2⟩ := ho p (by omega)
    have eo : aO (nI p).toNatClampNeg = nI (o p) := by rw [nI_clamp (by omega)]; exact o1
    refine br_f (nI_ge (b := 5) (by omega) (by decide)) ⟨vp_in_nI (by omega) (by omega), nm_r eo (pk_le c (o p) (fun h1 => xj_40 ?_) (fun h1 => br_c (fun h2 => ?_) (fun h2 => xj_40 ?_)))⟩
    · exact ih (p + 1) aT t f (by omega) (by omega) hf (ji_skip hpl hI (fun w => absurd (hWc _ w) (by omega)))
    · have w := (hW _ h1).mp h2
      obtain ⟨l1, l2⟩ := hL _ h1
      have hT : pc_T aT 0 t f := fun x hx => by rw [Nat.zero_add]; exact hf x hx
      have hsr := hs _ h1
      refine xj_41 o2 l1 l2 (by omega) (fun q q1 q2 => ?_) (fun hno s s1 s2 s3 s4 a a1 a2 => ?_)
      · exact ih (p + 1) aT t f (by omega) (by omega) hf (ji_skip hpl hI (fun _ => ⟨q, q1, (tx_at hT hsr q1).mp q2⟩))
      · refine ih (p + 1) a (t + (L (o p) - s)) (fun x => if x < t then f x else sy (o p) (s + (x - t))) (by omega) (by omega) ?_ (ji_ext hS hpl (by omega) hsur (fun x hx => (hsr x hx).2) hI w ?_ ⟨s1, s2, (tx_ov hT hsr s1 s2).mp s3⟩ ?_ (fun x hx => if_pos hx) ?_)
        · intro x hx
          by_cases cx : x < t
          · rw [if_pos cx, a1 x cx]
            exact hf x cx
          · have q := a2 (x - t) (by omega)
            rw [show t + (x - t) = x by omega] at q
            rw [if_neg cx, q]
            exact hsr _ (by omega)
        · rintro ⟨q, q1, q2⟩
          exact hno q q1 ((tx_at hT hsr q1).mpr q2)
        · rintro k ⟨k1, k2, k3⟩
          by_cases ck : k ≤ s
          · exact ck
          · exact absurd ((tx_ov hT hsr k1 k2).mpr k3) (s4 k (by omega) k1 k2)
        · intro y hy
          rw [if_neg (by omega), show t + y - t = y by omega]
    · exact ih (p + 1) aT t f (by omega) (by omega) hf (ji_skip hpl hI (fun w => absurd ((hW _ h1).mpr w) h2))
theorem xf_nobetter {L : Nat → Nat} {sy : Nat → Nat → Nat} {W : Nat → Prop} {S f g : Nat → Nat} {nS t m : Nat} (hS : st_First L sy W S nS) (hf : st_Ok L sy W f t) (hm : m = nS) (hg : ∀ x, x < m → g x = S x) : ¬ xt_Better f t g m := by
  subst hm
  obtain ⟨h1, h2⟩ := hS.2 f t hf
  rintro (h | ⟨e, d, d1, d2, d3⟩)
  · omega
  · have hd := hg d (by omega)
    rcases h2 e with h | ⟨b, b1, b2, b3⟩
    · have := h d (by omega)
      omega
    · by_cases c1 : b < d
      · have q1 := d2 b c1
        have q2 := hg b b1
        omega
      · by_cases c2 : d < b
        · have := b2 d c2
          omega
        · have : b = d := by omega
          subst this
          omega
theorem xf_same {L : Nat → Nat} {sy : Nat → Nat → Nat} {W : Nat → Prop} {S f g : Nat → Nat} {nS t m : Nat} (hS : st_First L sy W S nS) (hg : st_Ok L sy W g m) (ht : t = nS) (hf : ∀ x, x < t → f x = S x) (hb : ¬ xt_Better f t g m) : m = nS ∧ ∀ x, x < m → g x = S x := by
  subst ht
  obtain ⟨h1, h2⟩ := hS.2 g m hg
  have e : m = t := by
    by_cases c : t < m
    · exact absurd (Or.inl c) hb
    · omega
  refine ⟨e, ?_⟩
  rcases h2 e with h | ⟨b, b1, b2, b3⟩
  · intro x hx
    exact (h x (by omega)).symm
  · exfalso
    refine hb (Or.inr ⟨e.symm, b, b1, fun x hx => ?_, ?_⟩)
    · rw [hf x (by omega)]; exact b2 x hx
    · rw [hf b b1]; exact b3
def xf_I (L : Nat → Nat) (sy : Nat → Nat → Nat) (W : Nat → Prop) (pl S : Nat → Nat) (nS code : Nat) (jl : Int32) (aJ : Nat → Int32) : Prop := code = 0 ∨ ∃ g m, m ≤ 30 ∧ jl = nI m ∧ (∀ x, x < m → aJ x = nI (g x) ∧ g x < 4) ∧ st_Ok L sy W g m ∧ ((∃ q, q < code ∧ ji_Sorted pl (so_run 5 0 q (fun x => x))) → m = nS ∧ ∀ x, x < m → g x = S x)
theorem xf_29 {post : SX → Prop} {J : Int32 → Int32 → Int32 → Int32 → (Nat → Int32) → (Nat → Int32) → (Nat → Int32) → (Nat → Int32) → (Nat → Int32) → Prop} {x1 fc jl : Int32} {aS aL aO aT aJ : Nat → Int32} {code t : Nat} (ht : t ≤ 30) (h : ∀ a, (∀ x, x < t → a x = aT x) → J (nI (code + 1)) fc (nI t) (nI t) aS aL aO aT a) : wX_findJoin_29 post J x1 (nI code) fc (nI t) jl aS aL aO aT aJ :=
  xt_keep ht (fun a ha => nm_r (nI_1 code) (h a ha))
theorem xf_loop {post : SX → Prop} {c : Nat} {L : Nat → Nat} {sy : Nat → Nat → Nat} {W : Nat → Prop} {ch : Int32} {aS aL : Nat → Int32} {pl S : Nat → Nat} {nS : Nat} (P : pc_P c L sy (nI c) aS aL) (hWc : ∀ j, W j → j < c) (hW : ∀ r, r < c → ((ch >>> (nI r &&& 31)) &&& 1 = 1 ↔ W r)) (hS : st_First L sy W S nS) (hpl : ∀ j, W j → st_At L sy S nS j (pl j) ∧ ∀ p, st_At L sy S nS j p → pl j ≤ p) (hp : ∀ tl jl aO aT aJ, xf_I L sy W pl S nS 120 jl aJ → post (nI c, tl, jl, aS, aL, aO, aT, aJ)) : ∀ d code tl jl aO aT aJ, code + d = 120 → xf_I L sy W pl S nS code jl aJ → wX_findJoin_2 post ch (d + 1) (nI code) (nI c) tl jl aS aL aO aT aJ := by
  intro d
  induction d with
  | zero =>
    intro code tl jl aO aT aJ h hI
    have e : code = 120 := by omega
    subst e
    exact br_t (nI_le (a := 120) (by omega) (by omega)) (hp tl jl aO aT aJ hI)
  | succ d ih =>
    intro code tl jl aO aT aJ h hI
    refine br_f (nI_ge (b := 120) (by omega) (by decide)) (xo_set (by omega) (fun a ha => ?_))
    have ho : ∀ x, x < 5 → a x = nI (so_run 5 0 code (fun x => x) x) ∧ so_run 5 0 code (fun x => x) x < 5 := by
      intro x hx
      obtain ⟨y, _, y2, e⟩ := so_val 5 0 code (fun x => x) rfl x (Nat.zero_le _) hx
      exact ⟨ha x hx, by rw [e]; exact y2⟩
    have hc := P.2.1
    have hsur : ∀ j, W j → ∃ x, x < 5 ∧ so_run 5 0 code (fun x => x) x = j := fun j hj => so_sur code j (by have := hWc j hj; omega)
    refine ⟨5 + 1, xj_loop P hWc hW hS hpl ho hsur (fun bT t f t1 t2 t3 => ?_) 5 0 aT 0 (fun _ => 0) rfl (Nat.zero_le _) (fun x hx => absurd hx (Nat.not_lt_zero x)) ji_0⟩
    obtain ⟨ok, hso⟩ := ji_end hS hsur t3
    have keep : ((∃ q, q < code + 1 ∧ ji_Sorted pl (so_run 5 0 q (fun x => x))) → t = nS ∧ ∀ x, x < t → f x = S x) → wX_findJoin_29 post (wX_findJoin_2 post ch (d + 1)) ch (nI code) (nI c) (nI t) jl aS aL a bT aJ := by
      intro hk
      refine xf_29 t1 (fun b hb => ih (code + 1) (nI t) (nI t) a bT b (by omega) (Or.inr ⟨f, t, t1, rfl, fun x hx => ?_, ok, hk⟩))
      rw [hb x hx]
      exact t2 x hx
    rcases hI with h0 | ⟨g, m, m1, rfl, m3, m4, m5⟩
    · refine br_t (by rw [h0]; rfl) (keep ?_)
      rintro ⟨q, q1, q2⟩
      have : q = code := by omega
      subst this
      exact hso q2
    · refine pk_eq code 0 (fun h0 => keep ?_) (fun h0 => xt_better t1 m1 t2 m3 (fun hb => br_f (by decide) (keep ?_)) (fun hb => br_t rfl (nm_r (nI_1 code) (ih (code + 1) _ _ _ _ _ (by omega) (Or.inr ⟨g, m, m1, rfl, m3, m4, ?_⟩)))))
      · rintro ⟨q, q1, q2⟩
        have : q = code := by omega
        subst this
        exact hso q2
      · rintro ⟨q, q1, q2⟩
        by_cases cq : q < code
        · obtain ⟨e1, e2⟩ := m5 ⟨q, cq, q2⟩
          exact absurd hb (xf_nobetter hS ok e1 e2)
        · have : q = code := by omega
          subst this
          exact hso q2
      · rintro ⟨q, q1, q2⟩
        by_cases cq : q < code
        · exact m5 ⟨q, cq, q2⟩
        · have : q = code := by omega
          subst this
          obtain ⟨e1, e2⟩ := hso q2
          exact xf_same hS m4 e1 e2 hb
theorem xf_find {post : SX → Prop} {c : Nat} {L : Nat → Nat} {sy : Nat → Nat → Nat} {W : Nat → Prop} {ch tl jl : Int32} {aS aL aO aT aJ : Nat → Int32} (P : pc_P c L sy (nI c) aS aL) (hWc : ∀ j, W j → j < c) (hW : ∀ r, r < c → ((ch >>> (nI r &&& 31)) &&& 1 = 1 ↔ W r)) (hp : ∀ tl aO aT aJ S m, m ≤ 30 → st_First L sy W S m → (∀ x, x < m → aJ x = nI (S x) ∧ S x < 4) → post (nI c, tl, nI m, aS, aL, aO, aT, aJ)) : wpX_findJoin post (nI c, tl, jl, aS, aL, aO, aT, aJ) ch := by
  obtain ⟨S, nS, hn, hS⟩ := st_first_exists P.2.1 hWc (fun j hj => (P.2.2.1 j hj).2) (fun j hj x hx => (P.2.2.2 j hj x hx).2)
  have hex : ∀ j, ∃ p, W j → st_At L sy S nS j p ∧ ∀ q, st_At L sy S nS j q → p ≤ q := by
    intro j
    by_cases w : W j
    · obtain ⟨p, p1, p2⟩ := pk_least (fun p => st_At L sy S nS j p) (hS.1.2 j w)
      refine ⟨p, fun _ => ⟨p1, fun q hq => ?_⟩⟩
      by_cases cq : p ≤ q
      · exact cq
      · exact absurd hq (p2 q (by omega))
    · exact ⟨0, fun h => absurd h w⟩
  obtain ⟨pl, hpl⟩ : ∃ pl : Nat → Nat, ∀ j, W j → st_At L sy S nS j (pl j) ∧ ∀ q, st_At L sy S nS j q → pl j ≤ q := ⟨fun j => Classical.choose (hex j), fun j => Classical.choose_spec (hex j)⟩
  refine ⟨120 + 1, xf_loop P hWc hW hS hpl (fun tl jl aO aT aJ hI => ?_) 120 0 tl jl aO aT aJ rfl (Or.inl rfl)⟩
  rcases hI with h0 | ⟨g, m, m1, rfl, m3, m4, m5⟩
  · exact absurd h0 (by decide)
  · obtain ⟨e1, e2⟩ := m5 (so_all pl)
    refine hp tl aO aT aJ S m m1 (by rw [e1]; exact hS) (fun x hx => ?_)
    rw [← e2 x hx]
    exact m3 x hx
