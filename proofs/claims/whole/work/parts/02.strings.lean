/-! strings as a function and a length; reads: lengths L, symbols sy -/
section
variable (L : Nat → Nat) (sy : Nat → Nat → Nat)
def st_At (f : Nat → Nat) (n j p : Nat) : Prop := p + L j ≤ n ∧ ∀ x, x < L j → f (p + x) = sy j x
def st_Has (f : Nat → Nat) (n j : Nat) : Prop := ∃ p, st_At L sy f n j p
def st_End (f : Nat → Nat) (n j k : Nat) : Prop := k ≤ n ∧ k ≤ L j ∧ ∀ x, x < k → f (n - k + x) = sy j x
def st_Ok (W : Nat → Prop) (f : Nat → Nat) (n : Nat) : Prop := (∀ x, x < n → f x < 4) ∧ ∀ j, W j → st_Has L sy f n j
def st_Le (f g : Nat → Nat) (n : Nat) : Prop := (∀ x, x < n → f x = g x) ∨ ∃ d, d < n ∧ (∀ x, x < d → f x = g x) ∧ f d < g d
def st_First (W : Nat → Prop) (f : Nat → Nat) (n : Nat) : Prop := st_Ok L sy W f n ∧ ∀ g m, st_Ok L sy W g m → n ≤ m ∧ (m = n → st_Le f g n)
end
theorem st_at_congr {L : Nat → Nat} {sy : Nat → Nat → Nat} {f g : Nat → Nat} {n j p : Nat} (h : ∀ x, x < n → f x = g x) (a : st_At L sy f n j p) : st_At L sy g n j p := by
  obtain ⟨a, b⟩ := a
  exact ⟨a, fun x hx => (h (p + x) (by omega)).symm.trans (b x hx)⟩
theorem st_has_congr {L : Nat → Nat} {sy : Nat → Nat → Nat} {f g : Nat → Nat} {n j : Nat} (h : ∀ x, x < n → f x = g x) (a : st_Has L sy f n j) : st_Has L sy g n j := by
  obtain ⟨p, a⟩ := a
  exact ⟨p, st_at_congr h a⟩
theorem st_has_ext {L : Nat → Nat} {sy : Nat → Nat → Nat} {f g : Nat → Nat} {n m j : Nat} (hm : n ≤ m) (h : ∀ x, x < n → f x = g x) (a : st_Has L sy f n j) : st_Has L sy g m j := by
  obtain ⟨p, a⟩ := a
  obtain ⟨a, b⟩ := st_at_congr h a
  exact ⟨p, by omega, b⟩
theorem st_ok_congr {L : Nat → Nat} {sy : Nat → Nat → Nat} {W : Nat → Prop} {f g : Nat → Nat} {n : Nat} (h : ∀ x, x < n → f x = g x) (a : st_Ok L sy W f n) : st_Ok L sy W g n := by
  obtain ⟨a, b⟩ := a
  exact ⟨fun x hx => by rw [← h x hx]; exact a x hx, fun j hj => st_has_congr h (b j hj)⟩
theorem st_le_anti {f g : Nat → Nat} {n : Nat} (h1 : st_Le f g n) (h2 : st_Le g f n) : ∀ x, x < n → f x = g x := by
  rcases h1 with h1 | ⟨d, hd, he, hl⟩
  · exact h1
  · exfalso
    rcases h2 with h2 | ⟨e, hd', he', hl'⟩
    · have := h2 d hd
      omega
    · by_cases c1 : d < e
      · have := he' d c1
        omega
      · by_cases c2 : e < d
        · have := he e c2
          omega
        · have : d = e := by omega
          subst this
          omega
theorem st_first_unique {L : Nat → Nat} {sy : Nat → Nat → Nat} {W : Nat → Prop} {f g : Nat → Nat} {n m : Nat} (h1 : st_First L sy W f n) (h2 : st_First L sy W g m) : n = m ∧ ∀ x, x < n → f x = g x := by
  obtain ⟨o1, l1⟩ := h1
  obtain ⟨o2, l2⟩ := h2
  obtain ⟨a1, b1⟩ := l1 g m o2
  obtain ⟨a2, b2⟩ := l2 f n o1
  have e : n = m := by omega
  subst e
  exact ⟨rfl, st_le_anti (b1 rfl) (b2 rfl)⟩
theorem st_lex_min {L : Nat → Nat} {sy : Nat → Nat → Nat} {W : Nat → Prop} {n : Nat} {f0 : Nat → Nat} (h0 : st_Ok L sy W f0 n) : ∀ k, k ≤ n → ∃ f, st_Ok L sy W f n ∧ ∀ g, st_Ok L sy W g n → st_Le f g k := by
  intro k
  induction k with
  | zero => intro _; exact ⟨f0, h0, fun g _ => Or.inl (fun x hx => by omega)⟩
  | succ k ih =>
    intro hk
    obtain ⟨f, hf, hl⟩ := ih (by omega)
    obtain ⟨v, ⟨g, hg, hgf, hgk⟩, hmin⟩ := pk_least (fun v => ∃ g, st_Ok L sy W g n ∧ (∀ x, x < k → g x = f x) ∧ g k = v) ⟨f k, f, hf, fun _ _ => rfl, rfl⟩
    refine ⟨g, hg, fun h hh => ?_⟩
    rcases hl h hh with e | ⟨d, hd, he, hlt⟩
    · have hv : ¬ h k < v := fun z => hmin (h k) z ⟨h, hh, fun x hx => (e x hx).symm, rfl⟩
      by_cases c : h k = v
      · left
        intro x hx
        by_cases cx : x < k
        · rw [hgf x cx]; exact e x cx
        · have : x = k := by omega
          subst this
          omega
      · right
        exact ⟨k, by omega, fun x hx => by rw [hgf x hx]; exact e x hx, by omega⟩
    · right
      exact ⟨d, by omega, fun x hx => by rw [hgf x (by omega)]; exact he x hx, by rw [hgf d hd]; exact hlt⟩
theorem st_some_ok {L : Nat → Nat} {sy : Nat → Nat → Nat} {W : Nat → Prop} {c : Nat} (hc : c ≤ 5) (hW : ∀ j, W j → j < c) (hL : ∀ j, j < c → L j ≤ 6) (hs : ∀ j, j < c → ∀ x, x < L j → sy j x < 4) : ∃ f, st_Ok L sy W f 30 := by
  refine ⟨fun x => if x / 6 < c ∧ x % 6 < L (x / 6) then sy (x / 6) (x % 6) else 0, ?_, ?_⟩
  · intro x hx
    dsimp only
    split
    · rename_i h
      exact hs _ h.1 _ h.2
    · omega
  · intro j hj
    have h1 := hW j hj
    have h2 := hL j h1
    refine ⟨6 * j, by omega, fun x hx => ?_⟩
    have e1 : (6 * j + x) / 6 = j := by omega
    have e2 : (6 * j + x) % 6 = x := by omega
    dsimp only
    rw [e1, e2]
    exact if_pos ⟨h1, hx⟩
theorem st_first_exists {L : Nat → Nat} {sy : Nat → Nat → Nat} {W : Nat → Prop} {c : Nat} (hc : c ≤ 5) (hW : ∀ j, W j → j < c) (hL : ∀ j, j < c → L j ≤ 6) (hs : ∀ j, j < c → ∀ x, x < L j → sy j x < 4) : ∃ f n, n ≤ 30 ∧ st_First L sy W f n := by
  obtain ⟨g, hg⟩ := st_some_ok hc hW hL hs
  obtain ⟨n, ⟨f0, h0⟩, hmin⟩ := pk_least (fun n => ∃ f, st_Ok L sy W f n) ⟨30, g, hg⟩
  obtain ⟨f, hf, hl⟩ := st_lex_min h0 n (Nat.le_refl n)
  refine ⟨f, n, ?_, hf, fun h m hm => ⟨?_, fun e => ?_⟩⟩
  · by_cases c : n ≤ 30
    · exact c
    · exact absurd ⟨g, hg⟩ (hmin 30 (by omega))
  · by_cases c : n ≤ m
    · exact c
    · exact absurd ⟨h, hm⟩ (hmin m (by omega))
  · subst e
    exact hl h hm
