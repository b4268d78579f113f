/-! the relation, and the methods that need no search -/
def i_Rel (k : Nat) (u : SX) (v : SY) : Prop := ∃ (c : Nat) (L : Nat → Nat) (sy : Nat → Nat → Nat), pc_P c L sy u.1 u.2.2.2.1 u.2.2.2.2.1 ∧ pc_P c L sy v.1 v.2.2.1 v.2.1
theorem i_up {k : Nat} {u : SX} {v : SY} (h : i_Rel k u v) : i_Rel (k + 3) u v := h
theorem i_vc0 : wpX_init (fun u => wpY_init (fun v => i_Rel 0 u v)) :=
  ⟨0, fun _ => 0, fun _ _ => 0, ⟨rfl, by omega, fun i hi => absurd hi (Nat.not_lt_zero i), fun i hi => absurd hi (Nat.not_lt_zero i)⟩, ⟨rfl, by omega, fun i hi => absurd hi (Nat.not_lt_zero i), fun i hi => absurd hi (Nat.not_lt_zero i)⟩⟩
theorem rl_get {k : Nat} {u : SX} {v : SY} (h : i_Rel k u v) : ∃ (c : Nat) (L : Nat → Nat) (sy : Nat → Nat → Nat) (tl jl : Int32) (aS aL aO aT aJ : Nat → Int32) (aZ bS aE aN aD bJ aW : Nat → Int32), u = (nI c, tl, jl, aS, aL, aO, aT, aJ) ∧ v = (nI c, aZ, bS, aE, aN, aD, bJ, aW) ∧ pc_P c L sy (nI c) aS aL ∧ pc_P c L sy (nI c) bS aZ := by
  obtain ⟨fc, tl, jl, aS, aL, aO, aT, aJ⟩ := u
  obtain ⟨gc, aZ, bS, aE, aN, aD, bJ, aW⟩ := v
  obtain ⟨c, L, sy, P, Q⟩ := h
  have e1 : fc = nI c := P.1
  have e2 : gc = nI c := Q.1
  subst e1 e2
  exact ⟨c, L, sy, tl, jl, aS, aL, aO, aT, aJ, aZ, bS, aE, aN, aD, bJ, aW, rfl, rfl, P, Q⟩
theorem rl_mk {k c : Nat} {L : Nat → Nat} {sy : Nat → Nat → Nat} {tl jl : Int32} {aS aL aO aT aJ aZ bS aE aN aD bJ aW : Nat → Int32} (P : pc_P c L sy (nI c) aS aL) (Q : pc_P c L sy (nI c) bS aZ) : i_Rel k (nI c, tl, jl, aS, aL, aO, aT, aJ) (nI c, aZ, bS, aE, aN, aD, bJ, aW) := ⟨c, L, sy, P, Q⟩
theorem ix_2 (i : Int32) {c : Nat} (hc : c ≤ 5) : (i < 0 ∨ nI c ≤ i) ∨ ∃ j, j < c ∧ i = nI j := by
  rcases pk_ix i (n := c) (by omega) with h | h | h
  · exact Or.inl (Or.inl h)
  · exact Or.inl (Or.inr h)
  · exact Or.inr h
theorem xr_no {post : Int32 → Prop} {c : Nat} {tl jl i : Int32} {aS aL aO aT aJ : Nat → Int32} (hi : i < 0 ∨ nI c ≤ i) (h : post 0) : wpX_isRead post (nI c, tl, jl, aS, aL, aO, aT, aJ) i := by
  rcases hi with hi | hi
  · exact br_t hi h
  · exact br_c (fun _ => h) (fun _ => br_t hi h)
theorem xr_yes {post : Int32 → Prop} {c j : Nat} {tl jl : Int32} {aS aL aO aT aJ : Nat → Int32} (hc : c ≤ 5) (hj : j < c) (h : post 1) : wpX_isRead post (nI c, tl, jl, aS, aL, aO, aT, aJ) (nI j) :=
  br_f (nI_pos (by omega)) (br_f (nI_ge hj (by omega)) h)
theorem yr_no {post : Int32 → Prop} {c : Nat} {i : Int32} {aZ aS aE aN aD aJ aW : Nat → Int32} (hi : i < 0 ∨ nI c ≤ i) (h : post 0) : wpY_is post (nI c, aZ, aS, aE, aN, aD, aJ, aW) i := by
  rcases hi with hi | hi
  · exact br_t hi h
  · exact br_c (fun _ => h) (fun _ => br_t hi h)
theorem yr_yes {post : Int32 → Prop} {c j : Nat} {aZ aS aE aN aD aJ aW : Nat → Int32} (hc : c ≤ 5) (hj : j < c) (h : post 1) : wpY_is post (nI c, aZ, aS, aE, aN, aD, aJ, aW) (nI j) :=
  br_f (nI_pos (by omega)) (br_f (nI_ge hj (by omega)) h)
theorem pc_begin {c : Nat} {L : Nat → Nat} {sy : Nat → Nat → Nat} {aS aL : Nat → Int32} (hc : c < 5) (P : pc_P c L sy (nI c) aS aL) : pc_P (c + 1) (fun i => if i = c then 0 else L i) sy (nI (c + 1)) aS (upd aL c 0) := by
  obtain ⟨_, _, hL, hs⟩ := P
  refine ⟨rfl, by omega, fun i hi => ?_, fun i hi x hx => ?_⟩
  · dsimp only
    by_cases ci : i = c
    · rw [if_pos ci, ci, pk_us]
      exact ⟨rfl, by omega⟩
    · rw [if_neg ci, pk_un ci]
      exact hL i (by omega)
  · dsimp only at hx
    by_cases ci : i = c
    · rw [if_pos ci] at hx
      omega
    · rw [if_neg ci] at hx
      exact hs i (by omega) x hx
theorem i_vc_begin {k : Nat} {u : SX} {v : SY} (I : i_Rel k u v) (hk : k + 3 ≤ 1536) : wpX_begin (fun r u' => wpY_begin (fun r' v' => r' = r ∧ i_Rel (k + 3) u' v') v) u := by
  obtain ⟨c, L, sy, tl, jl, aS, aL, aO, aT, aJ, aZ, bS, aE, aN, aD, bJ, aW, rfl, rfl, P, Q⟩ := rl_get I
  have hc := P.2.1
  by_cases h : c < 5
  · have hl : nI c < 5 := nI_lt (b := 5) h (by decide)
    have hv : vp_in (nI c) 5 := vp_in_nI h (by omega)
    have ec : (nI c).toNatClampNeg = c := nI_clamp (by omega)
    refine br_t hl ⟨hv, nm_e (nm_r (nI_1 c) (br_t hl ⟨hv, nm_e (nm_r (nI_1 c) ⟨rfl, ?_⟩)⟩))⟩
    rw [ec]
    exact rl_mk (pc_begin h P) (pc_begin h Q)
  · have hl : ¬ nI c < 5 := nI_nlt (b := 5) (by omega) (by omega)
    exact br_f hl (br_f hl ⟨rfl, rl_mk P Q⟩)
def pc_aS (j l v : Nat) (sy : Nat → Nat → Nat) : Nat → Nat → Nat := fun i x => if i = j ∧ x = l then v else sy i x
def pc_aL (j l : Nat) (L : Nat → Nat) : Nat → Nat := fun i => if i = j then l else L i
theorem pc_append {c : Nat} {L : Nat → Nat} {sy : Nat → Nat → Nat} {aS aL : Nat → Int32} {j v : Nat} (hj : j < c) (hl : L j < 6) (hv : v < 4) (P : pc_P c L sy (nI c) aS aL) : pc_P c (pc_aL j (L j + 1) L) (pc_aS j (L j) v sy) (nI c) (upd aS (6 * j + L j) (nI v)) (upd aL j (nI (L j + 1))) := by
  obtain ⟨_, hc, hL, hs⟩ := P
  refine ⟨rfl, hc, fun i hi => ?_, fun i hi x hx => ?_⟩
  · unfold pc_aL
    by_cases ci : i = j
    · rw [if_pos ci, ci, pk_us]
      exact ⟨rfl, by omega⟩
    · rw [if_neg ci, pk_un ci]
      exact hL i hi
  · unfold pc_aL at hx
    unfold pc_aS
    by_cases ci : i = j
    · rw [if_pos ci] at hx
      subst ci
      by_cases cx : x = L i
      · rw [if_pos ⟨rfl, cx⟩, cx, pk_us]
        exact ⟨rfl, hv⟩
      · rw [if_neg (fun z => cx z.2), pk_un (by omega)]
        exact hs i hi x (by omega)
    · rw [if_neg ci] at hx
      have h6 := (hL i hi).2
      rw [if_neg (fun z => ci z.1), pk_un (by omega)]
      exact hs i hi x hx
theorem i_vc_append {k : Nat} {u : SX} {v : SY} (I : i_Rel k u v) (hk : k + 3 ≤ 1536) (v1 : Int32) (v2 : Int32) : wpX_append (fun r u' => wpY_append (fun r' v' => r' = r ∧ i_Rel (k + 3) u' v') v v1 v2) u v1 v2 := by
  obtain ⟨c, L, sy, tl, jl, aS, aL, aO, aT, aJ, aZ, bS, aE, aN, aD, bJ, aW, rfl, rfl, P, Q⟩ := rl_get I
  have hc := P.2.1
  rcases ix_2 v1 hc with hi | ⟨j, hj, rfl⟩
  · unfold wpX_append
    dsimp only
    refine xr_no hi ?_
    refine br_t rfl ?_
    unfold wpY_append
    dsimp only
    refine yr_no hi ?_
    exact br_t rfl ⟨rfl, rl_mk P Q⟩
  · by_cases h0 : v2 < 0
    · unfold wpX_append
      dsimp only
      refine xr_yes hc hj ?_
      refine br_f (by decide) (br_t h0 ?_)
      unfold wpY_append
      dsimp only
      refine yr_yes hc hj ?_
      exact br_f (by decide) (br_t h0 ⟨rfl, rl_mk P Q⟩)
    · obtain ⟨x, hx, rfl⟩ := nI_of h0
      by_cases h4 : x < 4
      · have n4 : ¬ (4 : Int32) ≤ nI x := nI_ge (b := 4) h4 (by decide)
        have n3 : ¬ (3 : Int32) < nI x := nI_nlt (a := 3) (by omega) (by decide)
        have hv : vp_in (nI j) 5 := vp_in_nI (by omega) (by omega)
        have ec : (nI j).toNatClampNeg = j := nI_clamp (by omega)
        obtain ⟨l1, l2⟩ := P.2.2.1 j hj
        obtain ⟨z1, _⟩ := Q.2.2.1 j hj
        have el : aL (nI j).toNatClampNeg = nI (L j) := by rw [ec]; exact l1
        have ez : aZ (nI j).toNatClampNeg = nI (L j) := by rw [ec]; exact z1
        have ix : nI j * 6 + aL (nI j).toNatClampNeg = nI (6 * j + L j) := by rw [el, nu_6, nI_add]
        have iy : 6 * nI j + aZ (nI j).toNatClampNeg = nI (6 * j + L j) := by rw [ez, nu_6', nI_add]
        unfold wpX_append
        dsimp only
        refine xr_yes hc hj ?_
        refine br_f (by decide) (br_f h0 (br_f n4 ⟨hv, ?_⟩))
        by_cases h6 : L j < 6
        · have lx : aL (nI j).toNatClampNeg < 6 := by rw [el]; exact nI_lt (b := 6) h6 (by decide)
          have ly : aZ (nI j).toNatClampNeg < 6 := by rw [ez]; exact nI_lt (b := 6) h6 (by decide)
          refine br_t lx ⟨hv, pk_in _ 30 (by omega) ix, nm_e ⟨hv, hv, nm_e ?_⟩⟩
          unfold wpY_append
          dsimp only
          refine yr_yes hc hj ?_
          refine br_f (by decide) (br_f h0 (br_f n3 ⟨hv, br_t ly ⟨hv, pk_in _ 30 (by omega) iy, nm_e ⟨hv, hv, nm_e ⟨rfl, ?_⟩⟩⟩⟩))
          rw [pk_cl _ ix, pk_cl _ iy, ec, l1, z1, nI_1]
          exact rl_mk (pc_append hj h6 h4 P) (pc_append hj h6 h4 Q)
        · have lx : ¬ aL (nI j).toNatClampNeg < 6 := by rw [el]; exact nI_nlt (b := 6) (by omega) (by omega)
          have ly : ¬ aZ (nI j).toNatClampNeg < 6 := by rw [ez]; exact nI_nlt (b := 6) (by omega) (by omega)
          refine br_f lx ?_
          unfold wpY_append
          dsimp only
          refine yr_yes hc hj ?_
          exact br_f (by decide) (br_f h0 (br_f n3 ⟨hv, br_f ly ⟨rfl, rl_mk P Q⟩⟩))
      · have n4 : (4 : Int32) ≤ nI x := nI_le (a := 4) (by omega) hx
        have n3 : (3 : Int32) < nI x := nI_lt (a := 3) (by omega) hx
        unfold wpX_append
        dsimp only
        refine xr_yes hc hj ?_
        refine br_f (by decide) (br_f h0 (br_t n4 ?_))
        unfold wpY_append
        dsimp only
        refine yr_yes hc hj ?_
        exact br_f (by decide) (br_f h0 (br_t n3 ⟨rfl, rl_mk P Q⟩))
theorem pc_back {c : Nat} {L : Nat → Nat} {sy : Nat → Nat → Nat} {aS aL : Nat → Int32} {j : Nat} (hj : j < c) (P : pc_P c L sy (nI c) aS aL) : pc_P c (pc_aL j (L j - 1) L) sy (nI c) aS (upd aL j (nI (L j - 1))) := by
  obtain ⟨_, hc, hL, hs⟩ := P
  refine ⟨rfl, hc, fun i hi => ?_, fun i hi x hx => ?_⟩
  · unfold pc_aL
    by_cases ci : i = j
    · have := (hL j hj).2
      rw [if_pos ci, ci, pk_us]
      exact ⟨rfl, by omega⟩
    · rw [if_neg ci, pk_un ci]
      exact hL i hi
  · unfold pc_aL at hx
    by_cases ci : i = j
    · rw [if_pos ci] at hx
      subst ci
      exact hs i hi x (by omega)
    · rw [if_neg ci] at hx
      exact hs i hi x hx
theorem i_vc_back {k : Nat} {u : SX} {v : SY} (I : i_Rel k u v) (hk : k + 3 ≤ 1536) (v1 : Int32) : wpX_back (fun r u' => wpY_back (fun r' v' => r' = r ∧ i_Rel (k + 3) u' v') v v1) u v1 := by
  obtain ⟨c, L, sy, tl, jl, aS, aL, aO, aT, aJ, aZ, bS, aE, aN, aD, bJ, aW, rfl, rfl, P, Q⟩ := rl_get I
  have hc := P.2.1
  rcases ix_2 v1 hc with hi | ⟨j, hj, rfl⟩
  · unfold wpX_back
    dsimp only
    refine xr_no hi ?_
    refine br_t rfl ?_
    unfold wpY_back
    dsimp only
    refine yr_no hi ?_
    exact br_t rfl ⟨rfl, rl_mk P Q⟩
  · have hv : vp_in (nI j) 5 := vp_in_nI (by omega) (by omega)
    have ec : (nI j).toNatClampNeg = j := nI_clamp (by omega)
    obtain ⟨l1, l2⟩ := P.2.2.1 j hj
    obtain ⟨z1, _⟩ := Q.2.2.1 j hj
    have el : aL (nI j).toNatClampNeg = nI (L j) := by rw [ec]; exact l1
    have ez : aZ (nI j).toNatClampNeg = nI (L j) := by rw [ec]; exact z1
    unfold wpX_back
    dsimp only
    refine xr_yes hc hj ?_
    refine br_f (by decide) ⟨hv, ?_⟩
    by_cases h0 : L j = 0
    · have lx : aL (nI j).toNatClampNeg = 0 := by rw [el, h0]; rfl
      have ly : aZ (nI j).toNatClampNeg = 0 := by rw [ez, h0]; rfl
      refine br_t lx ?_
      unfold wpY_back
      dsimp only
      refine yr_yes hc hj ?_
      exact br_f (by decide) ⟨hv, br_t ly ⟨rfl, rl_mk P Q⟩⟩
    · have lx : ¬ aL (nI j).toNatClampNeg = 0 := by rw [el]; exact nI_ne0 (by omega) (by omega)
      have ly : ¬ aZ (nI j).toNatClampNeg = 0 := by rw [ez]; exact nI_ne0 (by omega) (by omega)
      have ux : upd aL (nI j).toNatClampNeg (aL (nI j).toNatClampNeg - 1) = upd aL j (nI (L j - 1)) := by
        rw [el, ec, show (1 : Int32) = nI 1 from rfl, pk_sub (by omega)]
      have uy : upd aZ (nI j).toNatClampNeg (aZ (nI j).toNatClampNeg - 1) = upd aZ j (nI (L j - 1)) := by
        rw [ez, ec, show (1 : Int32) = nI 1 from rfl, pk_sub (by omega)]
      have ix : nI j * 6 + upd aL j (nI (L j - 1)) (nI j).toNatClampNeg = nI (6 * j + (L j - 1)) := by rw [ec, pk_us, nu_6, nI_add]
      have iy : 6 * nI j + upd aZ j (nI (L j - 1)) (nI j).toNatClampNeg = nI (6 * j + (L j - 1)) := by rw [ec, pk_us, nu_6', nI_add]
      refine br_f lx ⟨hv, hv, nm_r ux ⟨hv, pk_in _ 30 (by omega) ix, ?_⟩⟩
      unfold wpY_back
      dsimp only
      refine yr_yes hc hj ?_
      refine br_f (by decide) ⟨hv, br_f ly ⟨hv, hv, nm_r uy ⟨hv, pk_in _ 30 (by omega) iy, ?_, rl_mk (pc_back hj P) (pc_back hj Q)⟩⟩⟩
      rw [pk_cl _ ix, pk_cl _ iy, (P.2.2.2 j hj _ (by omega)).1, (Q.2.2.2 j hj _ (by omega)).1]
theorem i_vc_reads {k : Nat} {u : SX} {v : SY} (I : i_Rel k u v) (hk : k + 3 ≤ 1536) : wpX_reads (fun r => wpY_reads (fun r' => r' = r ∧ i_Rel (k + 3) u v) v) u := by
  obtain ⟨c, L, sy, tl, jl, aS, aL, aO, aT, aJ, aZ, bS, aE, aN, aD, bJ, aW, rfl, rfl, P, Q⟩ := rl_get I
  exact ⟨rfl, rl_mk P Q⟩
theorem i_vc_length {k : Nat} {u : SX} {v : SY} (I : i_Rel k u v) (hk : k + 3 ≤ 1536) (v1 : Int32) : wpX_length (fun r => wpY_length (fun r' => r' = r ∧ i_Rel (k + 3) u v) v v1) u v1 := by
  obtain ⟨c, L, sy, tl, jl, aS, aL, aO, aT, aJ, aZ, bS, aE, aN, aD, bJ, aW, rfl, rfl, P, Q⟩ := rl_get I
  have hc := P.2.1
  rcases ix_2 v1 hc with hi | ⟨j, hj, rfl⟩
  · unfold wpX_length
    dsimp only
    refine xr_no hi ?_
    refine br_t rfl ?_
    unfold wpY_length
    dsimp only
    refine yr_no hi ?_
    exact br_t rfl ⟨rfl, rl_mk P Q⟩
  · have hv : vp_in (nI j) 5 := vp_in_nI (by omega) (by omega)
    have ec : (nI j).toNatClampNeg = j := nI_clamp (by omega)
    unfold wpX_length
    dsimp only
    refine xr_yes hc hj ?_
    refine br_f (by decide) ⟨hv, ?_⟩
    unfold wpY_length
    dsimp only
    refine yr_yes hc hj ?_
    refine br_f (by decide) ⟨hv, ?_, rl_mk P Q⟩
    rw [ec, (P.2.2.1 j hj).1, (Q.2.2.1 j hj).1]
