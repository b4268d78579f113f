/-! the reference's ends, its steps and its distances, over naturals -/
def au_ek (e : Nat) : Nat := if e = 0 then 0 else (e - 1) % 6 + 1
def au_ei (e : Nat) : Nat := if e = 0 then 0 else (e - 1) / 6
def au_Real (c : Nat) (L : Nat → Nat) (e : Nat) : Prop := e = 0 ∨ ((e - 1) / 6 < c ∧ (e - 1) % 6 < L ((e - 1) / 6))
def au_wd (sy : Nat → Nat → Nat) (e v : Nat) : Nat → Nat := fun x => if x < au_ek e then sy (au_ei e) x else v
def au_Spec (c : Nat) (L : Nat → Nat) (sy : Nat → Nat → Nat) (e v ne nr : Nat) : Prop := au_Real c L ne ∧ st_End L sy (au_wd sy e v) (au_ek e + 1) (au_ei ne) (au_ek ne) ∧ (∀ j, j < c → ∀ k, st_End L sy (au_wd sy e v) (au_ek e + 1) j k → k ≤ au_ek ne) ∧ ∀ j, j < c → (nr.testBit j = true ↔ 1 ≤ L j ∧ st_End L sy (au_wd sy e v) (au_ek e + 1) j (L j))
def au_TS (c : Nat) (L : Nat → Nat) (sy : Nat → Nat → Nat) (aE aN : Nat → Int32) (e v : Nat) : Prop := ∃ ne nr, aE (4 * e + v) = nI ne ∧ aN (4 * e + v) = nI nr ∧ ne < 31 ∧ nr < 32 ∧ au_Spec c L sy e v ne nr
def au_T (c : Nat) (L : Nat → Nat) (sy : Nat → Nat → Nat) (aE aN : Nat → Int32) : Prop := ∀ e v, e < 31 → au_Real c L e → v < 4 → au_TS c L sy aE aN e v
def au_st (aE aN : Nat → Int32) (s v : Nat) : Nat := 31 * ((s / 31) ||| (aN (4 * (s % 31) + v)).toNatClampNeg) + (aE (4 * (s % 31) + v)).toNatClampNeg
def au_Rep (c : Nat) (L : Nat → Nat) (sy : Nat → Nat → Nat) (f : Nat → Nat) (n s : Nat) : Prop := s < 992 ∧ au_Real c L (s % 31) ∧ (∀ j, j < c → ((s / 31).testBit j = true ↔ st_Has L sy f n j)) ∧ st_End L sy f n (au_ei (s % 31)) (au_ek (s % 31)) ∧ ∀ j, j < c → ∀ k, st_End L sy f n j k → k ≤ au_ek (s % 31)
theorem au_end_iff {L : Nat → Nat} {sy : Nat → Nat → Nat} {f f' : Nat → Nat} {n i k v j len : Nat} (hE : st_End L sy f n i k) (hm : ∀ q, st_End L sy f n j q → q ≤ k) (h1 : ∀ x, x < n → f' x = f x) (h2 : f' n = v) (hl : 1 ≤ len) : st_End L sy f' (n + 1) j len ↔ st_End L sy (fun x => if x < k then sy i x else v) (k + 1) j len := by
  obtain ⟨e1, e2, e3⟩ := hE
  constructor
  · rintro ⟨g1, g2, g3⟩
    have hk : len - 1 ≤ k := hm (len - 1) ⟨by omega, by omega, fun x hx => by
      have := g3 x (by omega)
      rw [show n + 1 - len + x = n - (len - 1) + x by omega, h1 _ (by omega)] at this
      exact this⟩
    refine ⟨by omega, g2, fun x hx => ?_⟩
    have g := g3 x hx
    dsimp only
    split
    · rename_i hlt
      have q := e3 (k + 1 - len + x) hlt
      rw [← q, ← g, show n - k + (k + 1 - len + x) = n + 1 - len + x by omega]
      exact (h1 _ (by omega)).symm
    · rename_i hge
      rw [show n + 1 - len + x = n by omega, h2] at g
      exact g
  · rintro ⟨g1, g2, g3⟩
    refine ⟨by omega, g2, fun x hx => ?_⟩
    have g := g3 x hx
    dsimp only at g
    split at g
    · rename_i hlt
      have q := e3 (k + 1 - len + x) hlt
      rw [← g, ← q, show n - k + (k + 1 - len + x) = n + 1 - len + x by omega]
      exact h1 _ (by omega)
    · rename_i hge
      rw [show n + 1 - len + x = n by omega, h2]
      exact g
theorem au_has_succ {L : Nat → Nat} {sy : Nat → Nat → Nat} {f f' : Nat → Nat} {n j : Nat} (h1 : ∀ x, x < n → f' x = f x) : st_Has L sy f' (n + 1) j ↔ st_Has L sy f n j ∨ (1 ≤ L j ∧ st_End L sy f' (n + 1) j (L j)) := by
  constructor
  · rintro ⟨p, p1, p2⟩
    by_cases c : p + L j ≤ n
    · exact Or.inl ⟨p, c, fun x hx => by rw [← h1 _ (by omega)]; exact p2 x hx⟩
    · by_cases c0 : 1 ≤ L j
      · exact Or.inr ⟨c0, by omega, Nat.le_refl _, fun x hx => by rw [show n + 1 - L j + x = p + x by omega]; exact p2 x hx⟩
      · exact Or.inl ⟨0, by omega, fun x hx => by omega⟩
  · rintro (h | ⟨a, b, c, d⟩)
    · exact st_has_ext (by omega) (fun x hx => (h1 x hx).symm) h
    · exact ⟨n + 1 - L j, by omega, d⟩
theorem au_st_eq {c : Nat} {L : Nat → Nat} {sy : Nat → Nat → Nat} {aE aN : Nat → Int32} (hT : au_T c L sy aE aN) {s v : Nat} (hr : au_Real c L (s % 31)) (hs : s < 992) (hv : v < 4) : ∃ ne nr, aE (4 * (s % 31) + v) = nI ne ∧ aN (4 * (s % 31) + v) = nI nr ∧ ne < 31 ∧ nr < 32 ∧ au_Spec c L sy (s % 31) v ne nr ∧ au_st aE aN s v = 31 * ((s / 31) ||| nr) + ne ∧ au_st aE aN s v < 992 ∧ au_st aE aN s v % 31 = ne ∧ au_st aE aN s v / 31 = (s / 31) ||| nr := by
  obtain ⟨ne, nr, q1, q2, q3, q4, q5⟩ := hT (s % 31) v (Nat.mod_lt _ (by decide)) hr hv
  have ho : (s / 31) ||| nr < 2 ^ 5 := Nat.or_lt_two_pow (by omega) (by omega)
  have e : au_st aE aN s v = 31 * ((s / 31) ||| nr) + ne := by
    unfold au_st
    rw [q1, q2, nI_clamp (by omega), nI_clamp (by omega)]
  refine ⟨ne, nr, q1, q2, q3, q4, q5, e, ?_, ?_, ?_⟩
  · rw [e]; omega
  · rw [e]; omega
  · rw [e]; omega
theorem au_step {c : Nat} {L : Nat → Nat} {sy : Nat → Nat → Nat} {aE aN : Nat → Int32} (hT : au_T c L sy aE aN) {f f' : Nat → Nat} {n s v : Nat} (hR : au_Rep c L sy f n s) (hv : v < 4) (h1 : ∀ x, x < n → f' x = f x) (h2 : f' n = v) : au_Rep c L sy f' (n + 1) (au_st aE aN s v) := by
  obtain ⟨r1, r2, r3, r4, r5⟩ := hR
  obtain ⟨ne, nr, q1, q2, q3, q4, ⟨s1, s2, s3, s4⟩, e, t1, t2, t3⟩ := au_st_eq hT r2 r1 hv
  have key : ∀ j, j < c → ∀ len, 1 ≤ len → (st_End L sy f' (n + 1) j len ↔ st_End L sy (au_wd sy (s % 31) v) (au_ek (s % 31) + 1) j len) := fun j hj len hl => au_end_iff r4 (r5 j hj) h1 h2 hl
  unfold au_Rep
  rw [t2, t3]
  refine ⟨t1, s1, fun j hj => ?_, ?_, fun j hj k hk => ?_⟩
  · rw [Nat.testBit_or, Bool.or_eq_true, r3 j hj, s4 j hj, au_has_succ h1]
    constructor
    · rintro (h | ⟨a, b⟩)
      · exact Or.inl h
      · exact Or.inr ⟨a, (key j hj _ a).mpr b⟩
    · rintro (h | ⟨a, b⟩)
      · exact Or.inl h
      · exact Or.inr ⟨a, (key j hj _ a).mp b⟩
  · by_cases c0 : ne = 0
    · subst c0
      exact ⟨Nat.zero_le _, Nat.zero_le _, fun x hx => absurd hx (Nat.not_lt_zero x)⟩
    · have hk : 1 ≤ au_ek ne := by unfold au_ek; rw [if_neg c0]; omega
      have hi : au_ei ne < c := by
        rcases s1 with h | h
        · exact absurd h c0
        · unfold au_ei; rw [if_neg c0]; exact h.1
      exact (key _ hi _ hk).mpr s2
  · by_cases c0 : 1 ≤ k
    · exact s3 j hj k ((key j hj k c0).mp hk)
    · omega
def au_D (aE aN : Nat → Int32) (W : Nat → Prop) : Nat → Nat → Prop
  | 0, s => ∀ j, W j → (s / 31).testBit j = true
  | m + 1, s => ∃ v, v < 4 ∧ au_D aE aN W m (au_st aE aN s v)
theorem au_D_iff {c : Nat} {L : Nat → Nat} {sy : Nat → Nat → Nat} {aE aN : Nat → Int32} {W : Nat → Prop} (hT : au_T c L sy aE aN) (hW : ∀ j, W j → j < c) : ∀ (m : Nat) (f : Nat → Nat) (n s : Nat), au_Rep c L sy f n s → (au_D aE aN W m s ↔ ∃ g, (∀ x, x < n → g x = f x) ∧ (∀ x, n ≤ x → x < n + m → g x < 4) ∧ ∀ j, W j → st_Has L sy g (n + m) j) := by
  intro m
  induction m with
  | zero =>
    intro f n s hR
    obtain ⟨_, _, r3, _, _⟩ := hR
    constructor
    · intro h
      exact ⟨f, fun _ _ => rfl, fun x h1 h2 => by omega, fun j hj => (r3 j (hW j hj)).mp (h j hj)⟩
    · rintro ⟨g, g1, _, g3⟩ j hj
      exact (r3 j (hW j hj)).mpr (st_has_congr g1 (g3 j hj))
  | succ m ih =>
    intro f n s hR
    constructor
    · rintro ⟨v, hv, h⟩
      have hR' := au_step hT (f' := fun x => if x = n then v else f x) hR hv (fun x hx => if_neg (by omega)) (if_pos rfl)
      obtain ⟨g, g1, g2, g3⟩ := (ih _ _ _ hR').mp h
      refine ⟨g, fun x hx => ?_, fun x h1 h2 => ?_, ?_⟩
      · rw [g1 x (by omega)]; exact if_neg (by omega)
      · by_cases e : x = n
        · subst e
          rw [g1 x (by omega)]
          rw [if_pos rfl]
          exact hv
        · exact g2 x (by omega) (by omega)
      · rw [show n + (m + 1) = n + 1 + m by omega]; exact g3
    · rintro ⟨g, g1, g2, g3⟩
      have hR' := au_step hT (f' := g) hR (g2 n (by omega) (by omega)) g1 rfl
      refine ⟨g n, g2 n (by omega) (by omega), (ih _ _ _ hR').mpr ⟨g, fun _ _ => rfl, fun x h1 h2 => g2 x (by omega) (by omega), ?_⟩⟩
      rw [show n + 1 + m = n + (m + 1) by omega]; exact g3
/-- a state's cell after Q rounds -/
def nd_I (aE aN : Nat → Int32) (W : Nat → Prop) (Q : Nat) (x : Int32) (s : Nat) : Prop := (∃ m, m ≤ Q ∧ x = nI m ∧ au_D aE aN W m s ∧ ∀ i, i < m → ¬ au_D aE aN W i s) ∨ (x = -1 ∧ ∀ m, m ≤ Q → ¬ au_D aE aN W m s)
theorem nd_m1 {n : Nat} (h : n < 2 ^ 31) : ¬ (-1 : Int32) = nI n := by
  intro e
  have h1 := nI_pos h
  rw [← e] at h1
  exact h1 (by decide)
theorem nd_eq {aE aN : Nat → Int32} {W : Nat → Prop} {Q R s : Nat} {x : Int32} (hQ : Q ≤ 100) (hR : R ≤ Q) (h : nd_I aE aN W Q x s) : x = nI R ↔ au_D aE aN W R s ∧ ∀ i, i < R → ¬ au_D aE aN W i s := by
  rcases h with ⟨m, h1, h2, h3, h4⟩ | ⟨h1, h2⟩
  · rw [h2, nI_eq (by omega) (by omega)]
    constructor
    · rintro rfl
      exact ⟨h3, h4⟩
    · rintro ⟨a, b⟩
      by_cases c1 : m < R
      · exact absurd h3 (b m c1)
      · by_cases c2 : R < m
        · exact absurd a (h4 R c2)
        · omega
  · rw [h1]
    constructor
    · intro e
      exact absurd e (nd_m1 (by omega))
    · rintro ⟨a, _⟩
      exact absurd a (h2 R hR)
theorem nd_up {aE aN : Nat → Int32} {W : Nat → Prop} {Q s : Nat} {x : Int32} (hx : 0 ≤ x) (h : nd_I aE aN W Q x s) : nd_I aE aN W (Q + 1) x s := by
  rcases h with ⟨m, h1, h2⟩ | ⟨h1, _⟩
  · exact Or.inl ⟨m, by omega, h2⟩
  · rw [h1] at hx
    exact absurd hx (by decide)
theorem nd_step {aE aN : Nat → Int32} {W : Nat → Prop} {Q s : Nat} {x : Int32} (hx : ¬ 0 ≤ x) (hQ : Q ≤ 100) (h : nd_I aE aN W Q x s) : x = -1 ∧ (∀ m, m ≤ Q → ¬ au_D aE aN W m s) ∧ (au_D aE aN W (Q + 1) s ↔ ∃ v, v < 4 ∧ (au_D aE aN W Q (au_st aE aN s v) ∧ ∀ i, i < Q → ¬ au_D aE aN W i (au_st aE aN s v))) := by
  rcases h with ⟨m, h1, h2, _⟩ | ⟨h1, h2⟩
  · rw [h2] at hx
    exact absurd (nI_pos' (by omega)) hx
  · refine ⟨h1, h2, ?_, ?_⟩
    · rintro ⟨v, hv, hd⟩
      exact ⟨v, hv, hd, fun i hi hd' => h2 (i + 1) (by omega) ⟨v, hv, hd'⟩⟩
    · rintro ⟨v, hv, hd, _⟩
      exact ⟨v, hv, hd⟩
