section
theorem pk_us {f : Nat → Int32} {k : Nat} {x : Int32} : upd f k x k = x := if_pos rfl
theorem pk_un {f : Nat → Int32} {k j : Nat} {x : Int32} (h : j ≠ k) : upd f k x j = f j := if_neg h
theorem pk_sub {a b : Nat} (h : b ≤ a) : nI a - nI b = nI (a - b) := by
  obtain ⟨c, rfl⟩ : ∃ c, a = c + b := ⟨a - b, by omega⟩
  rw [← nI_add, Int32.add_sub_cancel, Nat.add_sub_cancel]
theorem pk_m1 (n : Nat) : nI (n + 1) + (-1) = nI n := by
  rw [← nI_1, Int32.add_assoc, show (1 : Int32) + (-1) = 0 from rfl, Int32.add_zero]
theorem pk_mul (a b : Nat) : nI a * nI b = nI (a * b) := (Int32.ofNat_mul a b).symm
theorem pk_div {a d : Nat} (ha : a < 2 ^ 31) (h0 : 0 < d) (hd : d < 2 ^ 31) : nI a / nI d = nI (a / d) := by
  apply Int32.toInt_inj.mp
  rw [lg_idiv_nonneg (by rw [nI_toInt ha]; omega) (by rw [nI_toInt hd]; omega), nI_toInt ha, nI_toInt hd, nI_toInt (Nat.lt_of_le_of_lt (Nat.div_le_self a d) ha)]
  first | rfl | exact (Int.natCast_ediv _ _).symm
theorem pk_rem {a d : Nat} (ha : a < 2 ^ 31) (h0 : 0 < d) (hd : d < 2 ^ 31) : nI a - nI a / nI d * nI d = nI (a % d) := by
  rw [pk_div ha h0 hd, pk_mul, pk_sub (Nat.div_mul_le_self a d)]
  exact congrArg nI (by have := Nat.div_add_mod' a d; omega)
theorem pk_ix (x : Int32) {n : Nat} (hn : n < 2 ^ 31) : x < 0 ∨ nI n ≤ x ∨ ∃ j : Nat, j < n ∧ x = nI j := by
  by_cases h : x < 0
  · exact Or.inl h
  · obtain ⟨j, hj, rfl⟩ := nI_of h
    by_cases h2 : j < n
    · exact Or.inr (Or.inr ⟨j, h2, rfl⟩)
    · exact Or.inr (Or.inl (nI_le (by omega) hj))
theorem pk_le {x y : Int32} {A B : Prop} (a b : Nat) (f : a ≤ b → A) (g : b < a → B) (hx : x = nI a := by rfl) (hy : y = nI b := by rfl) (ha : a < 2 ^ 31 := by omega) (hb : b < 2 ^ 31 := by omega) : (x ≤ y → A) ∧ (¬ x ≤ y → B) := by
  subst hx hy
  rw [nI_leI ha hb]
  exact ⟨f, fun z => g (by omega)⟩
theorem pk_lt {x y : Int32} {A B : Prop} (a b : Nat) (f : a < b → A) (g : b ≤ a → B) (hx : x = nI a := by rfl) (hy : y = nI b := by rfl) (ha : a < 2 ^ 31 := by omega) (hb : b < 2 ^ 31 := by omega) : (x < y → A) ∧ (¬ x < y → B) := by
  subst hx hy
  rw [nI_ltI ha hb]
  exact ⟨f, fun z => g (by omega)⟩
theorem pk_eq {x y : Int32} {A B : Prop} (a b : Nat) (f : a = b → A) (g : a ≠ b → B) (hx : x = nI a := by rfl) (hy : y = nI b := by rfl) (ha : a < 2 ^ 31 := by omega) (hb : b < 2 ^ 31 := by omega) : (x = y → A) ∧ (¬ x = y → B) := by
  subst hx hy
  rw [nI_eq ha hb]
  exact ⟨f, g⟩
theorem pk_in {x : Int32} (n N : Nat) (h : n < N) (hx : x = nI n := by rfl) (hN : N < 2 ^ 31 := by omega) : vp_in x N := by
  subst hx
  exact vp_in_nI h hN
theorem pk_cl {x : Int32} (n : Nat) (hx : x = nI n := by rfl) (h : n < 2 ^ 31 := by omega) : x.toNatClampNeg = n := by
  subst hx
  exact nI_clamp h
theorem pk_least (P : Nat → Prop) (h : ∃ k, P k) : ∃ k, P k ∧ ∀ j, j < k → ¬ P j := by
  obtain ⟨k, hk⟩ := h
  induction k using Nat.strongRecOn with
  | ind k ih =>
    by_cases e : ∃ j, j < k ∧ P j
    · obtain ⟨j, hj, pj⟩ := e
      exact ih j hj pj
    · exact ⟨k, hk, fun j hj pj => e ⟨j, hj, pj⟩⟩
theorem sb_m1 {p : Nat} (h : 0 < p) : nI p + (-1) = nI (p - 1) := by
  obtain ⟨q, rfl⟩ : ∃ q, p = q + 1 := ⟨p - 1, by omega⟩
  exact pk_m1 q
end
section
/-! strings as a function and a length; reads: lengths L, symbols sy -/
section
variable (L : Nat → Nat) (sy : Nat → Nat → Nat)
def st_At (f : Nat → Nat) (n j p : Nat) : Prop := p + L j ≤ n ∧ ∀ x, x < L j → f (p + x) = sy j x
def st_Has (f : Nat → Nat) (n j : Nat) : Prop := ∃ p, st_At L sy f n j p
def st_End (f : Nat → Nat) (n j k : Nat) : Prop := k ≤ n ∧ k ≤ L j ∧ ∀ x, x < k → f (n - k + x) = sy j x
def st_Ok (W : Nat → Prop) (f : Nat → Nat) (n : Nat) : Prop := (∀ x, x < n → f x < 4) ∧ ∀ j, W j → st_Has L sy f n j
def st_Le (f g : Nat → Nat) (n : Nat) : Prop := (∀ x, x < n → f x = g x) ∨ ∃ d, d < n ∧ (∀ x, x < d → f x = g x) ∧ f d < g d
def st_First (W : Nat → Prop) (f : Nat → Nat) (n : Nat) : Prop := st_Ok L sy W f n ∧ ∀ g m, st_Ok L sy W g m → n ≤ m ∧ (m = n → st_Le f g n)
end
theorem st_at_congr {L : Nat → Nat} {sy : Nat → Nat → Nat} {f g : Nat → Nat} {n j p : Nat} (h : ∀ x, x < n → f x = g x) (a : st_At L sy f n j p) : st_At L sy g n j p := by
  obtain ⟨a, b⟩ := a
  exact ⟨a, fun x hx => (h (p + x) (by omega)).symm.trans (b x hx)⟩
theorem st_has_congr {L : Nat → Nat} {sy : Nat → Nat → Nat} {f g : Nat → Nat} {n j : Nat} (h : ∀ x, x < n → f x = g x) (a : st_Has L sy f n j) : st_Has L sy g n j := by
  obtain ⟨p, a⟩ := a
  exact ⟨p, st_at_congr h a⟩
theorem st_has_ext {L : Nat → Nat} {sy : Nat → Nat → Nat} {f g : Nat → Nat} {n m j : Nat} (hm : n ≤ m) (h : ∀ x, x < n → f x = g x) (a : st_Has L sy f n j) : st_Has L sy g m j := by
  obtain ⟨p, a⟩ := a
  obtain ⟨a, b⟩ := st_at_congr h a
  exact ⟨p, by omega, b⟩
theorem st_ok_congr {L : Nat → Nat} {sy : Nat → Nat → Nat} {W : Nat → Prop} {f g : Nat → Nat} {n : Nat} (h : ∀ x, x < n → f x = g x) (a : st_Ok L sy W f n) : st_Ok L sy W g n := by
  obtain ⟨a, b⟩ := a
  exact ⟨fun x hx => by rw [← h x hx]; exact a x hx, fun j hj => st_has_congr h (b j hj)⟩
theorem st_le_anti {f g : Nat → Nat} {n : Nat} (h1 : st_Le f g n) (h2 : st_Le g f n) : ∀ x, x < n → f x = g x := by
  rcases h1 with h1 | ⟨d, hd, he, hl⟩
  · exact h1
  · exfalso
    rcases h2 with h2 | ⟨e, hd', he', hl'⟩
    · have := h2 d hd
      omega
    · by_cases c1 : d < e
      · have := he' d c1
        omega
      · by_cases c2 : e < d
        · have := he e c2
          omega
        · have : d = e := by omega
          subst this
          omega
theorem st_first_unique {L : Nat → Nat} {sy : Nat → Nat → Nat} {W : Nat → Prop} {f g : Nat → Nat} {n m : Nat} (h1 : st_First L sy W f n) (h2 : st_First L sy W g m) : n = m ∧ ∀ x, x < n → f x = g x := by
  obtain ⟨o1, l1⟩ := h1
  obtain ⟨o2, l2⟩ := h2
  obtain ⟨a1, b1⟩ := l1 g m o2
  obtain ⟨a2, b2⟩ := l2 f n o1
  have e : n = m := by omega
  subst e
  exact ⟨rfl, st_le_anti (b1 rfl) (b2 rfl)⟩
theorem st_lex_min {L : Nat → Nat} {sy : Nat → Nat → Nat} {W : Nat → Prop} {n : Nat} {f0 : Nat → Nat} (h0 : st_Ok L sy W f0 n) : ∀ k, k ≤ n → ∃ f, st_Ok L sy W f n ∧ ∀ g, st_Ok L sy W g n → st_Le f g k := by
  intro k
  induction k with
  | zero => intro _; exact ⟨f0, h0, fun g _ => Or.inl (fun x hx => by omega)⟩
  | succ k ih =>
    intro hk
    obtain ⟨f, hf, hl⟩ := ih (by omega)
    obtain ⟨v, ⟨g, hg, hgf, hgk⟩, hmin⟩ := pk_least (fun v => ∃ g, st_Ok L sy W g n ∧ (∀ x, x < k → g x = f x) ∧ g k = v) ⟨f k, f, hf, fun _ _ => rfl, rfl⟩
    refine ⟨g, hg, fun h hh => ?_⟩
    rcases hl h hh with e | ⟨d, hd, he, hlt⟩
    · have hv : ¬ h k < v := fun z => hmin (h k) z ⟨h, hh, fun x hx => (e x hx).symm, rfl⟩
      by_cases c : h k = v
      · left
        intro x hx
        by_cases cx : x < k
        · rw [hgf x cx]; exact e x cx
        · have : x = k := by omega
          subst this
          omega
      · right
        exact ⟨k, by omega, fun x hx => by rw [hgf x hx]; exact e x hx, by omega⟩
    · right
      exact ⟨d, by omega, fun x hx => by rw [hgf x (by omega)]; exact he x hx, by rw [hgf d hd]; exact hlt⟩
theorem st_some_ok {L : Nat → Nat} {sy : Nat → Nat → Nat} {W : Nat → Prop} {c : Nat} (hc : c ≤ 5) (hW : ∀ j, W j → j < c) (hL : ∀ j, j < c → L j ≤ 6) (hs : ∀ j, j < c → ∀ x, x < L j → sy j x < 4) : ∃ f, st_Ok L sy W f 30 := by
  refine ⟨fun x => if x / 6 < c ∧ x % 6 < L (x / 6) then sy (x / 6) (x % 6) else 0, ?_, ?_⟩
  · intro x hx
    dsimp only
    split
    · rename_i h
      exact hs _ h.1 _ h.2
    · omega
  · intro j hj
    have h1 := hW j hj
    have h2 := hL j h1
    refine ⟨6 * j, by omega, fun x hx => ?_⟩
    have e1 : (6 * j + x) / 6 = j := by omega
    have e2 : (6 * j + x) % 6 = x := by omega
    dsimp only
    rw [e1, e2]
    exact if_pos ⟨h1, hx⟩
theorem st_first_exists {L : Nat → Nat} {sy : Nat → Nat → Nat} {W : Nat → Prop} {c : Nat} (hc : c ≤ 5) (hW : ∀ j, W j → j < c) (hL : ∀ j, j < c → L j ≤ 6) (hs : ∀ j, j < c → ∀ x, x < L j → sy j x < 4) : ∃ f n, n ≤ 30 ∧ st_First L sy W f n := by
  obtain ⟨g, hg⟩ := st_some_ok hc hW hL hs
  obtain ⟨n, ⟨f0, h0⟩, hmin⟩ := pk_least (fun n => ∃ f, st_Ok L sy W f n) ⟨30, g, hg⟩
  obtain ⟨f, hf, hl⟩ := st_lex_min h0 n (Nat.le_refl n)
  refine ⟨f, n, ?_, hf, fun h m hm => ⟨?_, fun e => ?_⟩⟩
  · by_cases c : n ≤ 30
    · exact c
    · exact absurd ⟨g, hg⟩ (hmin 30 (by omega))
  · by_cases c : n ≤ m
    · exact c
    · exact absurd ⟨h, hm⟩ (hmin m (by omega))
  · subst e
    exact hl h hm
end
section
theorem cu_cut {L : Nat → Nat} {sy : Nat → Nat → Nat} {W : Nat → Prop} {f S pl : Nat → Nat} {t nS r s : Nat} (hS : st_First L sy W S nS) (hpl : ∀ j, W j → st_At L sy S nS j (pl j) ∧ ∀ p, st_At L sy S nS j p → pl j ≤ p) (hr : W r) (ht : t ≤ nS) (hf : ∀ x, x < t → f x = S x) (hq : ∀ q, W q → pl q + L q ≤ t ∨ pl r ≤ pl q) (hn : ¬ st_Has L sy f t r) (hE : st_End L sy f t r s) (hm : ∀ k, st_End L sy f t r k → k ≤ s) : pl r + s = t := by
  obtain ⟨⟨ha, hb⟩, hc⟩ := hpl r hr
  obtain ⟨e1, e2, e3⟩ := hE
  have c1 : ¬ pl r + L r ≤ t := fun z => hn ⟨pl r, z, fun x hx => by rw [hf (pl r + x) (by omega)]; exact hb x hx⟩
  have c2 : t ≤ pl r + s := by
    by_cases c : pl r ≤ t
    · have h := hm (t - pl r) ⟨by omega, by omega, fun x hx => by
        rw [show t - (t - pl r) + x = pl r + x by omega, hf (pl r + x) (by omega)]
        exact hb x (by omega)⟩
      omega
    · omega
  by_cases c3 : pl r + s = t
  · exact c3
  · exfalso
    obtain ⟨⟨o1, o2⟩, l⟩ := hS
    have hd : ∃ d, d + t = pl r + s := ⟨pl r + s - t, by omega⟩
    obtain ⟨d, hd⟩ := hd
    have hper : ∀ y, t ≤ y + s → y < t → S y = S (y + d) := by
      intro y h1 h2
      have q1 := e3 (y + s - t) (by omega)
      rw [show t - s + (y + s - t) = y by omega, hf y h2] at q1
      have q2 := hb (y + s - t) (by omega)
      rw [show pl r + (y + s - t) = y + d by omega] at q2
      rw [q1, q2]
    have hok : st_Ok L sy W (fun x => if x < t then S x else S (x + d)) (nS - d) := by
      constructor
      · intro x hx
        dsimp only
        split
        · exact o1 x (by omega)
        · exact o1 (x + d) (by omega)
      · intro q hq'
        obtain ⟨⟨qa, qb⟩, _⟩ := hpl q hq'
        rcases hq q hq' with h | h
        · refine ⟨pl q, by omega, fun x hx => ?_⟩
          dsimp only
          rw [if_pos (show pl q + x < t by omega)]
          exact qb x hx
        · refine ⟨pl q - d, by omega, fun x hx => ?_⟩
          dsimp only
          have e : pl q - d + x + d = pl q + x := by omega
          split
          · rename_i hlt
            rw [hper (pl q - d + x) (by omega) hlt, e]
            exact qb x hx
          · rw [e]
            exact qb x hx
    have := (l _ _ hok).1
    omega
def so_sw (o : Nat → Nat) (p q : Nat) : Nat → Nat := fun x => if x = p then o q else if x = q then o p else o x
def so_run : Nat → Nat → Nat → (Nat → Nat) → Nat → Nat
  | 0, _, _, o => o
  | d + 1, p, rest, o => so_run d (p + 1) (rest / (d + 1)) (so_sw o p (p + rest % (d + 1)))
def so_f : Nat → Nat
  | 0 => 1
  | d + 1 => (d + 1) * so_f d
theorem so_sw_val (o : Nat → Nat) (p q x : Nat) (hq : p ≤ q) (hq5 : q < 5) (hx : p ≤ x) (hx5 : x < 5) : ∃ y, p ≤ y ∧ y < 5 ∧ so_sw o p q x = o y := by
  unfold so_sw
  by_cases c1 : x = p
  · exact ⟨q, hq, hq5, if_pos c1⟩
  · rw [if_neg c1]
    by_cases c2 : x = q
    · exact ⟨p, by omega, by omega, if_pos c2⟩
    · exact ⟨x, hx, hx5, if_neg c2⟩
theorem so_keep : ∀ (d p rest : Nat) (o : Nat → Nat) (x : Nat), x < p → so_run d p rest o x = o x := by
  intro d
  induction d with
  | zero => intro p rest o x _; rfl
  | succ d ih =>
    intro p rest o x hx
    show so_run d (p + 1) _ _ x = o x
    rw [ih _ _ _ x (by omega)]
    unfold so_sw
    rw [if_neg (by omega), if_neg (by omega)]
theorem so_val : ∀ (d p rest : Nat) (o : Nat → Nat), d + p = 5 → ∀ x, p ≤ x → x < 5 → ∃ y, p ≤ y ∧ y < 5 ∧ so_run d p rest o x = o y := by
  intro d
  induction d with
  | zero => intro p rest o h x h1 h2; exact ⟨x, h1, h2, rfl⟩
  | succ d ih =>
    intro p rest o h x h1 h2
    have hm : rest % (d + 1) < d + 1 := Nat.mod_lt _ (by omega)
    show ∃ y, p ≤ y ∧ y < 5 ∧ so_run d (p + 1) (rest / (d + 1)) (so_sw o p (p + rest % (d + 1))) x = o y
    by_cases c : x = p
    · rw [so_keep d (p + 1) _ _ x (by omega)]
      exact so_sw_val o p _ x (by omega) (by omega) h1 h2
    · obtain ⟨y, y1, y2, e⟩ := ih (p + 1) (rest / (d + 1)) (so_sw o p (p + rest % (d + 1))) (by omega) x (by omega) h2
      rw [e]
      exact so_sw_val o p _ y (by omega) (by omega) (by omega) y2
theorem so_sw_onto (o : Nat → Nat) (p q y : Nat) (hq : p ≤ q) (hq5 : q < 5) (hy : p ≤ y) (hy5 : y < 5) : ∃ x, p ≤ x ∧ x < 5 ∧ so_sw o p q x = o y := by
  by_cases c1 : y = q
  · refine ⟨p, by omega, by omega, ?_⟩
    unfold so_sw
    rw [if_pos rfl, c1]
  · by_cases c2 : y = p
    · refine ⟨q, hq, hq5, ?_⟩
      unfold so_sw
      rw [if_neg (by omega), if_pos rfl, c2]
    · refine ⟨y, hy, hy5, ?_⟩
      unfold so_sw
      rw [if_neg c2, if_neg c1]
theorem so_onto : ∀ (d p rest : Nat) (o : Nat → Nat), d + p = 5 → ∀ y, p ≤ y → y < 5 → ∃ x, p ≤ x ∧ x < 5 ∧ so_run d p rest o x = o y := by
  intro d
  induction d with
  | zero => intro p rest o h x h1 h2; exact ⟨x, h1, h2, rfl⟩
  | succ d ih =>
    intro p rest o h y h1 h2
    have hm : rest % (d + 1) < d + 1 := Nat.mod_lt _ (by omega)
    show ∃ x, p ≤ x ∧ x < 5 ∧ so_run d (p + 1) (rest / (d + 1)) (so_sw o p (p + rest % (d + 1))) x = o y
    obtain ⟨x, x1, x2, e⟩ := so_sw_onto o p (p + rest % (d + 1)) y (by omega) (by omega) h1 h2
    by_cases c : x = p
    · exact ⟨x, x1, x2, by rw [so_keep d (p + 1) _ _ x (by omega)]; exact e⟩
    · obtain ⟨z, z1, z2, e2⟩ := ih (p + 1) (rest / (d + 1)) (so_sw o p (p + rest % (d + 1))) (by omega) x (by omega) x2
      exact ⟨z, by omega, z2, e2.trans e⟩
theorem so_sort (pl : Nat → Nat) : ∀ (d p : Nat) (o : Nat → Nat), d + p = 5 → ∃ rest, rest < so_f d ∧ ∀ x y, p ≤ x → x ≤ y → y < 5 → pl (so_run d p rest o x) ≤ pl (so_run d p rest o y) := by
  intro d
  induction d with
  | zero => intro p o h; exact ⟨0, by decide, fun x y h1 h2 h3 => by omega⟩
  | succ d ih =>
    intro p o h
    obtain ⟨v, ⟨q, q1, q2, qv⟩, hmin⟩ := pk_least (fun v => ∃ q, p ≤ q ∧ q < 5 ∧ pl (o q) = v) ⟨pl (o p), p, by omega, by omega, rfl⟩
    have hle : ∀ y, p ≤ y → y < 5 → pl (o q) ≤ pl (o y) := by
      intro y y1 y2
      by_cases c : pl (o y) < v
      · exact absurd ⟨y, y1, y2, rfl⟩ (hmin _ c)
      · omega
    obtain ⟨rest, hr, hs⟩ := ih (p + 1) (so_sw o p q) (by omega)
    refine ⟨(q - p) + (d + 1) * rest, ?_, ?_⟩
    · have := Nat.mul_le_mul_left (d + 1) (show rest + 1 ≤ so_f d from hr)
      rw [Nat.mul_add] at this
      show q - p + (d + 1) * rest < (d + 1) * so_f d
      omega
    · have e1 : ((q - p) + (d + 1) * rest) % (d + 1) = q - p := by
        rw [Nat.add_mul_mod_self_left]
        exact Nat.mod_eq_of_lt (by omega)
      have e2 : ((q - p) + (d + 1) * rest) / (d + 1) = rest := by
        rw [Nat.add_mul_div_left _ _ (by omega), Nat.div_eq_of_lt (by omega), Nat.zero_add]
      have e3 : p + (q - p) = q := by omega
      intro x y h1 h2 h3
      show pl (so_run d (p + 1) (((q - p) + (d + 1) * rest) / (d + 1)) (so_sw o p (p + ((q - p) + (d + 1) * rest) % (d + 1))) x) ≤ pl (so_run d (p + 1) (((q - p) + (d + 1) * rest) / (d + 1)) (so_sw o p (p + ((q - p) + (d + 1) * rest) % (d + 1))) y)
      rw [e1, e2, e3]
      by_cases c : x = p
      · have ex : so_run d (p + 1) rest (so_sw o p q) x = o q := by
          rw [so_keep d (p + 1) _ _ x (by omega)]
          exact if_pos c
        rw [ex]
        by_cases c2 : y = p
        · have ey : so_run d (p + 1) rest (so_sw o p q) y = o q := by
            rw [so_keep d (p + 1) _ _ y (by omega)]
            exact if_pos c2
          rw [ey]
          exact Nat.le_refl _
        · obtain ⟨z, z1, z2, e⟩ := so_val d (p + 1) rest (so_sw o p q) (by omega) y (by omega) h3
          obtain ⟨z', z1', z2', e'⟩ := so_sw_val o p q z q1 q2 (by omega) z2
          rw [e, e']
          exact hle z' z1' z2'
      · exact hs x y (by omega) h2 h3
def ji_Sorted (pl o : Nat → Nat) : Prop := ∀ x y, x ≤ y → y < 5 → pl (o x) ≤ pl (o y)
def ji_I (L : Nat → Nat) (sy : Nat → Nat → Nat) (W : Nat → Prop) (o pl S : Nat → Nat) (nS p : Nat) (f : Nat → Nat) (t : Nat) : Prop := (∀ x, x < t → f x < 4) ∧ (∀ y, y < p → W (o y) → st_Has L sy f t (o y)) ∧ (ji_Sorted pl o → t ≤ nS ∧ (∀ x, x < t → f x = S x) ∧ ∀ y, y < p → W (o y) → pl (o y) + L (o y) ≤ t)
theorem ji_0 {L : Nat → Nat} {sy : Nat → Nat → Nat} {W : Nat → Prop} {o pl S f : Nat → Nat} {nS : Nat} : ji_I L sy W o pl S nS 0 f 0 := ⟨fun x hx => by omega, fun y hy => by omega, fun _ => ⟨by omega, fun x hx => by omega, fun y hy => by omega⟩⟩
theorem ji_skip {L : Nat → Nat} {sy : Nat → Nat → Nat} {W : Nat → Prop} {o pl S f : Nat → Nat} {nS p t : Nat} (hpl : ∀ j, W j → st_At L sy S nS j (pl j) ∧ ∀ q, st_At L sy S nS j q → pl j ≤ q) (h : ji_I L sy W o pl S nS p f t) (hh : W (o p) → st_Has L sy f t (o p)) : ji_I L sy W o pl S nS (p + 1) f t := by
  obtain ⟨a, b, c⟩ := h
  refine ⟨a, fun y hy hw => ?_, fun hs => ?_⟩
  · by_cases e : y = p
    · subst e; exact hh hw
    · exact b y (by omega) hw
  · obtain ⟨c1, c2, c3⟩ := c hs
    refine ⟨c1, c2, fun y hy hw => ?_⟩
    by_cases e : y = p
    · subst e
      obtain ⟨q, q1, q2⟩ := hh hw
      have := (hpl _ hw).2 q ⟨by omega, fun x hx => by rw [← c2 (q + x) (by omega)]; exact q2 x hx⟩
      omega
    · exact c3 y (by omega) hw
theorem ji_ext {L : Nat → Nat} {sy : Nat → Nat → Nat} {W : Nat → Prop} {o pl S f f' : Nat → Nat} {nS p t s : Nat} (hS : st_First L sy W S nS) (hpl : ∀ j, W j → st_At L sy S nS j (pl j) ∧ ∀ q, st_At L sy S nS j q → pl j ≤ q) (hp : p < 5) (hsur : ∀ j, W j → ∃ x, x < 5 ∧ o x = j) (hsy : ∀ x, x < L (o p) → sy (o p) x < 4) (h : ji_I L sy W o pl S nS p f t) (hw : W (o p)) (hn : ¬ st_Has L sy f t (o p)) (hE : st_End L sy f t (o p) s) (hm : ∀ k, st_End L sy f t (o p) k → k ≤ s) (h1 : ∀ x, x < t → f' x = f x) (h2 : ∀ y, y < L (o p) - s → f' (t + y) = sy (o p) (s + y)) : ji_I L sy W o pl S nS (p + 1) f' (t + (L (o p) - s)) := by
  obtain ⟨a, b, c⟩ := h
  have hE' := hE
  obtain ⟨e1, e2, e3⟩ := hE'
  refine ⟨fun x hx => ?_, fun y hy hwy => ?_, fun hs => ?_⟩
  · by_cases cx : x < t
    · rw [h1 x cx]; exact a x cx
    · have := h2 (x - t) (by omega)
      rw [show t + (x - t) = x by omega] at this
      rw [this]
      exact hsy _ (by omega)
  · by_cases e : y = p
    · subst e
      refine ⟨t - s, by omega, fun x hx => ?_⟩
      by_cases cx : x < s
      · rw [h1 _ (by omega)]; exact e3 x cx
      · have := h2 (x - s) (by omega)
        rw [show t + (x - s) = t - s + x by omega, show s + (x - s) = x by omega] at this
        exact this
    · exact st_has_ext (by omega) (fun x hx => (h1 x hx).symm) (b y (by omega) hwy)
  · obtain ⟨c1, c2, c3⟩ := c hs
    have hcut : pl (o p) + s = t := by
      refine cu_cut hS hpl hw c1 c2 (fun q hq => ?_) hn hE hm
      obtain ⟨x, hx, rfl⟩ := hsur q hq
      by_cases cx : x < p
      · exact Or.inl (c3 x cx hq)
      · exact Or.inr (hs p x (by omega) hx)
    obtain ⟨⟨pa, pb⟩, _⟩ := hpl _ hw
    refine ⟨by omega, fun x hx => ?_, fun y hy hwy => ?_⟩
    · by_cases cx : x < t
      · rw [h1 x cx]; exact c2 x cx
      · have q1 := h2 (x - t) (by omega)
        have q2 := pb (s + (x - t)) (by omega)
        rw [show t + (x - t) = x by omega] at q1
        rw [show pl (o p) + (s + (x - t)) = x by omega] at q2
        rw [q1, q2]
    · by_cases e : y = p
      · subst e; omega
      · have := c3 y (by omega) hwy
        omega
theorem ji_end {L : Nat → Nat} {sy : Nat → Nat → Nat} {W : Nat → Prop} {o pl S f : Nat → Nat} {nS t : Nat} (hS : st_First L sy W S nS) (hsur : ∀ j, W j → ∃ x, x < 5 ∧ o x = j) (h : ji_I L sy W o pl S nS 5 f t) : st_Ok L sy W f t ∧ (ji_Sorted pl o → t = nS ∧ ∀ x, x < t → f x = S x) := by
  obtain ⟨a, b, c⟩ := h
  have ok : st_Ok L sy W f t := ⟨a, fun j hj => by
    obtain ⟨x, hx, rfl⟩ := hsur j hj
    exact b x hx hj⟩
  refine ⟨ok, fun hs => ?_⟩
  obtain ⟨c1, c2, _⟩ := c hs
  have := (hS.2 f t ok).1
  exact ⟨by omega, c2⟩
theorem so_all (pl : Nat → Nat) : ∃ code, code < 120 ∧ ji_Sorted pl (so_run 5 0 code (fun x => x)) := by
  obtain ⟨r, hr, hs⟩ := so_sort pl 5 0 (fun x => x) rfl
  exact ⟨r, hr, fun x y h1 h2 => hs x y (Nat.zero_le _) h1 h2⟩
theorem so_sur (code : Nat) : ∀ j, j < 5 → ∃ x, x < 5 ∧ so_run 5 0 code (fun x => x) x = j := by
  intro j hj
  obtain ⟨x, _, h, e⟩ := so_onto 5 0 code (fun x => x) rfl j (Nat.zero_le _) hj
  exact ⟨x, h, e⟩
end
section
/-! the reference's ends, its steps and its distances, over naturals -/
def au_ek (e : Nat) : Nat := if e = 0 then 0 else (e - 1) % 6 + 1
def au_ei (e : Nat) : Nat := if e = 0 then 0 else (e - 1) / 6
def au_Real (c : Nat) (L : Nat → Nat) (e : Nat) : Prop := e = 0 ∨ ((e - 1) / 6 < c ∧ (e - 1) % 6 < L ((e - 1) / 6))
def au_wd (sy : Nat → Nat → Nat) (e v : Nat) : Nat → Nat := fun x => if x < au_ek e then sy (au_ei e) x else v
def au_Spec (c : Nat) (L : Nat → Nat) (sy : Nat → Nat → Nat) (e v ne nr : Nat) : Prop := au_Real c L ne ∧ st_End L sy (au_wd sy e v) (au_ek e + 1) (au_ei ne) (au_ek ne) ∧ (∀ j, j < c → ∀ k, st_End L sy (au_wd sy e v) (au_ek e + 1) j k → k ≤ au_ek ne) ∧ ∀ j, j < c → (nr.testBit j = true ↔ 1 ≤ L j ∧ st_End L sy (au_wd sy e v) (au_ek e + 1) j (L j))
def au_TS (c : Nat) (L : Nat → Nat) (sy : Nat → Nat → Nat) (aE aN : Nat → Int32) (e v : Nat) : Prop := ∃ ne nr, aE (4 * e + v) = nI ne ∧ aN (4 * e + v) = nI nr ∧ ne < 31 ∧ nr < 32 ∧ au_Spec c L sy e v ne nr
def au_T (c : Nat) (L : Nat → Nat) (sy : Nat → Nat → Nat) (aE aN : Nat → Int32) : Prop := ∀ e v, e < 31 → au_Real c L e → v < 4 → au_TS c L sy aE aN e v
def au_st (aE aN : Nat → Int32) (s v : Nat) : Nat := 31 * ((s / 31) ||| (aN (4 * (s % 31) + v)).toNatClampNeg) + (aE (4 * (s % 31) + v)).toNatClampNeg
def au_Rep (c : Nat) (L : Nat → Nat) (sy : Nat → Nat → Nat) (f : Nat → Nat) (n s : Nat) : Prop := s < 992 ∧ au_Real c L (s % 31) ∧ (∀ j, j < c → ((s / 31).testBit j = true ↔ st_Has L sy f n j)) ∧ st_End L sy f n (au_ei (s % 31)) (au_ek (s % 31)) ∧ ∀ j, j < c → ∀ k, st_End L sy f n j k → k ≤ au_ek (s % 31)
theorem au_end_iff {L : Nat → Nat} {sy : Nat → Nat → Nat} {f f' : Nat → Nat} {n i k v j len : Nat} (hE : st_End L sy f n i k) (hm : ∀ q, st_End L sy f n j q → q ≤ k) (h1 : ∀ x, x < n → f' x = f x) (h2 : f' n = v) (hl : 1 ≤ len) : st_End L sy f' (n + 1) j len ↔ st_End L sy (fun x => if x < k then sy i x else v) (k + 1) j len := by
  obtain ⟨e1, e2, e3⟩ := hE
  constructor
  · rintro ⟨g1, g2, g3⟩
    have hk : len - 1 ≤ k := hm (len - 1) ⟨by omega, by omega, fun x hx => by
      have := g3 x (by omega)
      rw [show n + 1 - len + x = n - (len - 1) + x by omega, h1 _ (by omega)] at this
      exact this⟩
    refine ⟨by omega, g2, fun x hx => ?_⟩
    have g := g3 x hx
    dsimp only
    split
    · rename_i hlt
      have q := e3 (k + 1 - len + x) hlt
      rw [← q, ← g, show n - k + (k + 1 - len + x) = n + 1 - len + x by omega]
      exact (h1 _ (by omega)).symm
    · rename_i hge
      rw [show n + 1 - len + x = n by omega, h2] at g
      exact g
  · rintro ⟨g1, g2, g3⟩
    refine ⟨by omega, g2, fun x hx => ?_⟩
    have g := g3 x hx
    dsimp only at g
    split at g
    · rename_i hlt
      have q := e3 (k + 1 - len + x) hlt
      rw [← g, ← q, show n - k + (k + 1 - len + x) = n + 1 - len + x by omega]
      exact h1 _ (by omega)
    · rename_i hge
      rw [show n + 1 - len + x = n by omega, h2]
      exact g
theorem au_has_succ {L : Nat → Nat} {sy : Nat → Nat → Nat} {f f' : Nat → Nat} {n j : Nat} (h1 : ∀ x, x < n → f' x = f x) : st_Has L sy f' (n + 1) j ↔ st_Has L sy f n j ∨ (1 ≤ L j ∧ st_End L sy f' (n + 1) j (L j)) := by
  constructor
  · rintro ⟨p, p1, p2⟩
    by_cases c : p + L j ≤ n
    · exact Or.inl ⟨p, c, fun x hx => by rw [← h1 _ (by omega)]; exact p2 x hx⟩
    · by_cases c0 : 1 ≤ L j
      · exact Or.inr ⟨c0, by omega, Nat.le_refl _, fun x hx => by rw [show n + 1 - L j + x = p + x by omega]; exact p2 x hx⟩
      · exact Or.inl ⟨0, by omega, fun x hx => by omega⟩
  · rintro (h | ⟨a, b, c, d⟩)
    · exact st_has_ext (by omega) (fun x hx => (h1 x hx).symm) h
    · exact ⟨n + 1 - L j, by omega, d⟩
theorem au_st_eq {c : Nat} {L : Nat → Nat} {sy : Nat → Nat → Nat} {aE aN : Nat → Int32} (hT : au_T c L sy aE aN) {s v : Nat} (hr : au_Real c L (s % 31)) (hs : s < 992) (hv : v < 4) : ∃ ne nr, aE (4 * (s % 31) + v) = nI ne ∧ aN (4 * (s % 31) + v) = nI nr ∧ ne < 31 ∧ nr < 32 ∧ au_Spec c L sy (s % 31) v ne nr ∧ au_st aE aN s v = 31 * ((s / 31) ||| nr) + ne ∧ au_st aE aN s v < 992 ∧ au_st aE aN s v % 31 = ne ∧ au_st aE aN s v / 31 = (s / 31) ||| nr := by
  obtain ⟨ne, nr, q1, q2, q3, q4, q5⟩ := hT (s % 31) v (Nat.mod_lt _ (by decide)) hr hv
  have ho : (s / 31) ||| nr < 2 ^ 5 := Nat.or_lt_two_pow (by omega) (by omega)
  have e : au_st aE aN s v = 31 * ((s / 31) ||| nr) + ne := by
    unfold au_st
    rw [q1, q2, nI_clamp (by omega), nI_clamp (by omega)]
  refine ⟨ne, nr, q1, q2, q3, q4, q5, e, ?_, ?_, ?_⟩
  · rw [e]; omega
  · rw [e]; omega
  · rw [e]; omega
theorem au_step {c : Nat} {L : Nat → Nat} {sy : Nat → Nat → Nat} {aE aN : Nat → Int32} (hT : au_T c L sy aE aN) {f f' : Nat → Nat} {n s v : Nat} (hR : au_Rep c L sy f n s) (hv : v < 4) (h1 : ∀ x, x < n → f' x = f x) (h2 : f' n = v) : au_Rep c L sy f' (n + 1) (au_st aE aN s v) := by
  obtain ⟨r1, r2, r3, r4, r5⟩ := hR
  obtain ⟨ne, nr, q1, q2, q3, q4, ⟨s1, s2, s3, s4⟩, e, t1, t2, t3⟩ := au_st_eq hT r2 r1 hv
  have key : ∀ j, j < c → ∀ len, 1 ≤ len → (st_End L sy f' (n + 1) j len ↔ st_End L sy (au_wd sy (s % 31) v) (au_ek (s % 31) + 1) j len) := fun j hj len hl => au_end_iff r4 (r5 j hj) h1 h2 hl
  unfold au_Rep
  rw [t2, t3]
  refine ⟨t1, s1, fun j hj => ?_, ?_, fun j hj k hk => ?_⟩
  · rw [Nat.testBit_or, Bool.or_eq_true, r3 j hj, s4 j hj, au_has_succ h1]
    constructor
    · rintro (h | ⟨a, b⟩)
      · exact Or.inl h
      · exact Or.inr ⟨a, (key j hj _ a).mpr b⟩
    · rintro (h | ⟨a, b⟩)
      · exact Or.inl h
      · exact Or.inr ⟨a, (key j hj _ a).mp b⟩
  · by_cases c0 : ne = 0
    · subst c0
      exact ⟨Nat.zero_le _, Nat.zero_le _, fun x hx => absurd hx (Nat.not_lt_zero x)⟩
    · have hk : 1 ≤ au_ek ne := by unfold au_ek; rw [if_neg c0]; omega
      have hi : au_ei ne < c := by
        rcases s1 with h | h
        · exact absurd h c0
        · unfold au_ei; rw [if_neg c0]; exact h.1
      exact (key _ hi _ hk).mpr s2
  · by_cases c0 : 1 ≤ k
    · exact s3 j hj k ((key j hj k c0).mp hk)
    · omega
def au_D (aE aN : Nat → Int32) (W : Nat → Prop) : Nat → Nat → Prop
  | 0, s => ∀ j, W j → (s / 31).testBit j = true
  | m + 1, s => ∃ v, v < 4 ∧ au_D aE aN W m (au_st aE aN s v)
theorem au_D_iff {c : Nat} {L : Nat → Nat} {sy : Nat → Nat → Nat} {aE aN : Nat → Int32} {W : Nat → Prop} (hT : au_T c L sy aE aN) (hW : ∀ j, W j → j < c) : ∀ (m : Nat) (f : Nat → Nat) (n s : Nat), au_Rep c L sy f n s → (au_D aE aN W m s ↔ ∃ g, (∀ x, x < n → g x = f x) ∧ (∀ x, n ≤ x → x < n + m → g x < 4) ∧ ∀ j, W j → st_Has L sy g (n + m) j) := by
  intro m
  induction m with
  | zero =>
    intro f n s hR
    obtain ⟨_, _, r3, _, _⟩ := hR
    constructor
    · intro h
      exact ⟨f, fun _ _ => rfl, fun x h1 h2 => by omega, fun j hj => (r3 j (hW j hj)).mp (h j hj)⟩
    · rintro ⟨g, g1, _, g3⟩ j hj
      exact (r3 j (hW j hj)).mpr (st_has_congr g1 (g3 j hj))
  | succ m ih =>
    intro f n s hR
    constructor
    · rintro ⟨v, hv, h⟩
      have hR' := au_step hT (f' := fun x => if x = n then v else f x) hR hv (fun x hx => if_neg (by omega)) (if_pos rfl)
      obtain ⟨g, g1, g2, g3⟩ := (ih _ _ _ hR').mp h
      refine ⟨g, fun x hx => ?_, fun x h1 h2 => ?_, ?_⟩
      · rw [g1 x (by omega)]; exact if_neg (by omega)
      · by_cases e : x = n
        · subst e
          rw [g1 x (by omega)]
          rw [if_pos rfl]
          exact hv
        · exact g2 x (by omega) (by omega)
      · rw [show n + (m + 1) = n + 1 + m by omega]; exact g3
    · rintro ⟨g, g1, g2, g3⟩
      have hR' := au_step hT (f' := g) hR (g2 n (by omega) (by omega)) g1 rfl
      refine ⟨g n, g2 n (by omega) (by omega), (ih _ _ _ hR').mpr ⟨g, fun _ _ => rfl, fun x h1 h2 => g2 x (by omega) (by omega), ?_⟩⟩
      rw [show n + 1 + m = n + (m + 1) by omega]; exact g3
/-- a state's cell after Q rounds -/
def nd_I (aE aN : Nat → Int32) (W : Nat → Prop) (Q : Nat) (x : Int32) (s : Nat) : Prop := (∃ m, m ≤ Q ∧ x = nI m ∧ au_D aE aN W m s ∧ ∀ i, i < m → ¬ au_D aE aN W i s) ∨ (x = -1 ∧ ∀ m, m ≤ Q → ¬ au_D aE aN W m s)
theorem nd_m1 {n : Nat} (h : n < 2 ^ 31) : ¬ (-1 : Int32) = nI n := by
  intro e
  have h1 := nI_pos h
  rw [← e] at h1
  exact h1 (by decide)
theorem nd_eq {aE aN : Nat → Int32} {W : Nat → Prop} {Q R s : Nat} {x : Int32} (hQ : Q ≤ 100) (hR : R ≤ Q) (h : nd_I aE aN W Q x s) : x = nI R ↔ au_D aE aN W R s ∧ ∀ i, i < R → ¬ au_D aE aN W i s := by
  rcases h with ⟨m, h1, h2, h3, h4⟩ | ⟨h1, h2⟩
  · rw [h2, nI_eq (by omega) (by omega)]
    constructor
    · rintro rfl
      exact ⟨h3, h4⟩
    · rintro ⟨a, b⟩
      by_cases c1 : m < R
      · exact absurd h3 (b m c1)
      · by_cases c2 : R < m
        · exact absurd a (h4 R c2)
        · omega
  · rw [h1]
    constructor
    · intro e
      exact absurd e (nd_m1 (by omega))
    · rintro ⟨a, _⟩
      exact absurd a (h2 R hR)
theorem nd_up {aE aN : Nat → Int32} {W : Nat → Prop} {Q s : Nat} {x : Int32} (hx : 0 ≤ x) (h : nd_I aE aN W Q x s) : nd_I aE aN W (Q + 1) x s := by
  rcases h with ⟨m, h1, h2⟩ | ⟨h1, _⟩
  · exact Or.inl ⟨m, by omega, h2⟩
  · rw [h1] at hx
    exact absurd hx (by decide)
theorem nd_step {aE aN : Nat → Int32} {W : Nat → Prop} {Q s : Nat} {x : Int32} (hx : ¬ 0 ≤ x) (hQ : Q ≤ 100) (h : nd_I aE aN W Q x s) : x = -1 ∧ (∀ m, m ≤ Q → ¬ au_D aE aN W m s) ∧ (au_D aE aN W (Q + 1) s ↔ ∃ v, v < 4 ∧ (au_D aE aN W Q (au_st aE aN s v) ∧ ∀ i, i < Q → ¬ au_D aE aN W i (au_st aE aN s v))) := by
  rcases h with ⟨m, h1, h2, _⟩ | ⟨h1, h2⟩
  · rw [h2] at hx
    exact absurd (nI_pos' (by omega)) hx
  · refine ⟨h1, h2, ?_, ?_⟩
    · rintro ⟨v, hv, hd⟩
      exact ⟨v, hv, hd, fun i hi hd' => h2 (i + 1) (by omega) ⟨v, hv, hd'⟩⟩
    · rintro ⟨v, hv, hd, _⟩
      exact ⟨v, hv, hd⟩
end
section
/-! the picture of the reads in the arrays, and the joiner's questions about a text -/
def pc_P (c : Nat) (L : Nat → Nat) (sy : Nat → Nat → Nat) (fc : Int32) (aS aL : Nat → Int32) : Prop := fc = nI c ∧ c ≤ 5 ∧ (∀ i, i < c → aL i = nI (L i) ∧ L i ≤ 6) ∧ ∀ i, i < c → ∀ x, x < L i → aS (6 * i + x) = nI (sy i x) ∧ sy i x < 4
def pc_T (a : Nat → Int32) (s n : Nat) (f : Nat → Nat) : Prop := ∀ x, x < n → a (s + x) = nI (f x) ∧ f x < 4
def tx_St (a aS : Nat → Int32) (s j l p : Nat) : Prop := ∀ x, x < l → a (s + p + x) = aS (6 * j + x)
def tx_Ov (a aS : Nat → Int32) (s n j k : Nat) : Prop := ∀ x, x < k → a (s + n - k + x) = aS (6 * j + x)
theorem tx_eq {a aS : Nat → Int32} {s n j l : Nat} {f : Nat → Nat} {sy : Nat → Nat → Nat} (h : pc_T a s n f) (hs : ∀ x, x < l → aS (6 * j + x) = nI (sy j x) ∧ sy j x < 4) {p x : Nat} (hp : p + x < n) (hx : x < l) : a (s + p + x) = aS (6 * j + x) ↔ f (p + x) = sy j x := by
  obtain ⟨a1, a2⟩ := h (p + x) hp
  obtain ⟨b1, b2⟩ := hs x hx
  rw [Nat.add_assoc, a1, b1, nI_eq (by omega) (by omega)]
theorem tx_at {a aS : Nat → Int32} {s n j l : Nat} {f : Nat → Nat} {sy : Nat → Nat → Nat} (h : pc_T a s n f) (hs : ∀ x, x < l → aS (6 * j + x) = nI (sy j x) ∧ sy j x < 4) {p : Nat} (hp : p + l ≤ n) : tx_St a aS s j l p ↔ ∀ x, x < l → f (p + x) = sy j x :=
  ⟨fun q x hx => (tx_eq h hs (by omega) hx).mp (q x hx), fun q x hx => (tx_eq h hs (by omega) hx).mpr (q x hx)⟩
theorem tx_ov {a aS : Nat → Int32} {s n j l k : Nat} {f : Nat → Nat} {sy : Nat → Nat → Nat} (h : pc_T a s n f) (hs : ∀ x, x < l → aS (6 * j + x) = nI (sy j x) ∧ sy j x < 4) (hk : k ≤ n) (hl : k ≤ l) : tx_Ov a aS s n j k ↔ ∀ x, x < k → f (n - k + x) = sy j x := by
  have e : s + n - k = s + (n - k) := by omega
  unfold tx_Ov
  rw [e]
  exact ⟨fun q x hx => (tx_eq h hs (by omega) (by omega)).mp (q x hx), fun q x hx => (tx_eq h hs (by omega) (by omega)).mpr (q x hx)⟩
theorem nu_6 (j : Nat) : nI j * 6 = nI (6 * j) := (pk_mul j 6).trans (congrArg nI (Nat.mul_comm j 6))
theorem nu_6' (j : Nat) : 6 * nI j = nI (6 * j) := pk_mul 6 j
theorem xs_read {post : Int32 → Prop} {c : Nat} {tl jl : Int32} {aS aL aO aT aJ : Nat → Int32} (hc : c ≤ 5) (i : Int32) (hy : ∀ j, j < c → i = nI j → post 1) (hn : (i < 0 ∨ nI c ≤ i) → post 0) : wpX_isRead post (nI c, tl, jl, aS, aL, aO, aT, aJ) i := by
  rcases pk_ix i (n := c) (by omega) with h | h | ⟨j, hj, rfl⟩
  · exact br_t h (hn (Or.inl h))
  · exact br_c (fun _ => hn (Or.inr h)) (fun _ => br_t h (hn (Or.inr h)))
  · exact br_f (nI_pos (by omega)) (br_f (nI_ge hj (by omega)) (hy j hj rfl))
theorem xs_same_symbols_l {post : Int32 → Prop} {fc tl jl : Int32} {aS aL aO aT aJ : Nat → Int32} {p q n : Nat} (h1 : p + n ≤ 30) (h2 : q + n ≤ 30) (hy : (∀ x, x < n → aS (p + x) = aS (q + x)) → post 1) (hn : ∀ x, x < n → ¬ aS (p + x) = aS (q + x) → post 0) : ∀ d i, i + d = n → (∀ x, x < i → aS (p + x) = aS (q + x)) → wX_sameSymbols__symbols_3 post (nI p) (nI q) (nI n) fc tl jl aS aL aO aT aJ (d + 1) (nI i) := by
  intro d
  induction d with
  | zero =>
    intro i hi hp
    have e : i = n := by omega
    subst e
    exact br_t (nI_le (Nat.le_refl _) (by omega)) (hy hp)
  | succ d ih =>
    intro i hi hp
    have e1 : nI p + nI i = nI (p + i) := nI_add p i
    have e2 : nI q + nI i = nI (q + i) := nI_add q i
    refine br_f (nI_ge (by omega) (by omega)) ⟨pk_in (p + i) 30 (by omega) e1, pk_in (q + i) 30 (by omega) e2, br_c (fun h => nm_r (nI_1 i) ?_) (fun h => ?_)⟩
    · rw [pk_cl (p + i) e1, pk_cl (q + i) e2] at h
      exact ih (i + 1) (by omega) (lt_s hp h)
    · rw [pk_cl (p + i) e1, pk_cl (q + i) e2] at h
      exact hn i (by omega) h
theorem xs_same_symbols {post : Int32 → Prop} {fc tl jl : Int32} {aS aL aO aT aJ : Nat → Int32} {x1 x2 x3 : Int32} (p q n : Nat) (h1 : p + n ≤ 30) (h2 : q + n ≤ 30) (hy : (∀ x, x < n → aS (p + x) = aS (q + x)) → post 1) (hn : ¬ (∀ x, x < n → aS (p + x) = aS (q + x)) → post 0) (e1 : x1 = nI p) (e2 : x2 = nI q) (e3 : x3 = nI n) : wpX_sameSymbols__symbols post (fc, tl, jl, aS, aL, aO, aT, aJ) x1 x2 x3 := by
  subst e1 e2 e3
  exact ⟨n + 1, xs_same_symbols_l h1 h2 hy (fun x hx h => hn (fun z => h (z x hx))) n 0 (by omega) (fun x hx => absurd hx (Nat.not_lt_zero x))⟩
theorem xs_place_symbols_l {post : Int32 → Prop} {fc tl jl : Int32} {aS aL aO aT aJ : Nat → Int32} {s n j l : Nat} (hj : j < 5) (hl : aL j = nI l) (hl6 : l ≤ 6) (hn : s + n ≤ 30) (hy : ∀ p, p + l ≤ n → tx_St aS aS s j l p → (∀ b, b < p → ¬ tx_St aS aS s j l b) → post (nI p)) (hno : (∀ b, b + l ≤ n → ¬ tx_St aS aS s j l b) → post (-1)) : ∀ d p, p + d = n + 1 → (∀ b, b < p → ¬ tx_St aS aS s j l b) → wX_placeIn__symbols_3 post (nI s) (nI n) (nI j) fc tl jl aS aL aO aT aJ (d + 1) (nI p) := by
  intro d
  have ec : aL (nI j).toNatClampNeg = nI l := by rw [nI_clamp (by omega)]; exact hl
  induction d with
  | zero =>
    intro p hp hb
    refine ⟨vp_in_nI hj (by omega), br_t ?_ (hno (fun b h => hb b (by omega)))⟩
    rw [ec, nI_add]
    exact nI_lt (by omega) (by omega)
  | succ d ih =>
    intro p hp hb
    by_cases c : p + l ≤ n
    · refine ⟨vp_in_nI hj (by omega), br_f ?_ ⟨vp_in_nI hj (by omega), ?_⟩⟩
      · rw [ec, nI_add]
        exact nI_nlt c (by omega)
      · refine xs_same_symbols (s + p) (6 * j) l (by omega) (by omega) (fun h => ?_) (fun h => ?_) (nI_add s p) (nu_6 j) ec
        · exact br_f (by decide) (hy p c h hb)
        · exact br_t rfl (nm_r (nI_1 p) (ih (p + 1) (by omega) (lt_s hb h)))
    · refine ⟨vp_in_nI hj (by omega), br_t ?_ (hno (fun b h => hb b (by omega)))⟩
      rw [ec, nI_add]
      exact nI_lt (by omega) (by omega)
theorem xs_place_symbols {post : Int32 → Prop} {fc tl jl : Int32} {aS aL aO aT aJ : Nat → Int32} {x1 x2 x3 : Int32} (s n j l : Nat) (hj : j < 5) (hl : aL j = nI l) (hl6 : l ≤ 6) (hn : s + n ≤ 30) (hy : ∀ p, p + l ≤ n → tx_St aS aS s j l p → (∀ b, b < p → ¬ tx_St aS aS s j l b) → post (nI p)) (hno : (∀ b, b + l ≤ n → ¬ tx_St aS aS s j l b) → post (-1)) (e1 : x1 = nI s) (e2 : x2 = nI n) (e3 : x3 = nI j) : wpX_placeIn__symbols post (fc, tl, jl, aS, aL, aO, aT, aJ) x1 x2 x3 := by
  subst e1 e2 e3
  exact ⟨n + 1 + 1, xs_place_symbols_l hj hl hl6 hn hy hno (n + 1) 0 (by omega) (fun b hb => absurd hb (Nat.not_lt_zero b))⟩
theorem xs_over_symbols_l {post : Int32 → Prop} {fc tl jl : Int32} {aS aL aO aT aJ : Nat → Int32} {s n j l : Nat} (hj : j < 5) (hl6 : l ≤ 6) (hn : s + n ≤ 30) (hy : ∀ k, k ≤ n → k ≤ l → tx_Ov aS aS s n j k → (∀ q, k < q → q ≤ n → q ≤ l → ¬ tx_Ov aS aS s n j q) → post (nI k)) : ∀ k, k ≤ n → k ≤ l → (∀ q, k < q → q ≤ n → q ≤ l → ¬ tx_Ov aS aS s n j q) → wX_overlapWith__symbols_28 post (nI s) (nI n) (nI j) fc tl jl aS aL aO aT aJ (k + 1) (nI k) := by
  intro k
  induction k with
  | zero =>
    intro h1 h2 hq
    exact br_t (by decide) (hy 0 h1 h2 (fun x hx => absurd hx (Nat.not_lt_zero x)) hq)
  | succ k ih =>
    intro h1 h2 hq
    refine br_f (nI_nle (by omega) (by omega)) ?_
    refine xs_same_symbols (s + n - (k + 1)) (6 * j) (k + 1) (by omega) (by omega) (fun h => ?_) (fun h => ?_) (by rw [nI_add, pk_sub (by omega)]) (nu_6 j) rfl
    · exact br_f (by decide) (hy (k + 1) h1 h2 h hq)
    · refine br_t rfl (nm_r (pk_m1 k) (ih (by omega) (by omega) (fun q q1 q2 q3 => ?_)))
      by_cases c : q = k + 1
      · subst c; exact h
      · exact hq q (by omega) q2 q3
theorem xs_over_symbols {post : Int32 → Prop} {fc tl jl : Int32} {aS aL aO aT aJ : Nat → Int32} {x1 x2 x3 : Int32} (s n j l : Nat) (hj : j < 5) (hl : aL j = nI l) (hl6 : l ≤ 6) (hn : s + n ≤ 30) (hy : ∀ k, k ≤ n → k ≤ l → tx_Ov aS aS s n j k → (∀ q, k < q → q ≤ n → q ≤ l → ¬ tx_Ov aS aS s n j q) → post (nI k)) (e1 : x1 = nI s) (e2 : x2 = nI n) (e3 : x3 = nI j) : wpX_overlapWith__symbols post (fc, tl, jl, aS, aL, aO, aT, aJ) x1 x2 x3 := by
  subst e1 e2 e3
  have ec : aL (nI j).toNatClampNeg = nI l := by rw [nI_clamp (by omega)]; exact hl
  refine ⟨vp_in_nI hj (by omega), pk_le l n (fun h => ⟨vp_in_nI hj (by omega), nm_r ec ?_⟩) (fun h => ?_) ec rfl⟩
  · exact ⟨l + 1, xs_over_symbols_l hj hl6 hn hy l h (Nat.le_refl _) (fun q q1 q2 q3 => by omega)⟩
  · exact ⟨n + 1, xs_over_symbols_l hj hl6 hn hy n (Nat.le_refl _) (by omega) (fun q q1 q2 q3 => by omega)⟩
theorem xs_same_trial_l {post : Int32 → Prop} {fc tl jl : Int32} {aS aL aO aT aJ : Nat → Int32} {p q n : Nat} (h1 : p + n ≤ 30) (h2 : q + n ≤ 30) (hy : (∀ x, x < n → aT (p + x) = aS (q + x)) → post 1) (hn : ∀ x, x < n → ¬ aT (p + x) = aS (q + x) → post 0) : ∀ d i, i + d = n → (∀ x, x < i → aT (p + x) = aS (q + x)) → wX_sameSymbols__trial_3 post (nI p) (nI q) (nI n) fc tl jl aS aL aO aT aJ (d + 1) (nI i) := by
  intro d
  induction d with
  | zero =>
    intro i hi hp
    have e : i = n := by omega
    subst e
    exact br_t (nI_le (Nat.le_refl _) (by omega)) (hy hp)
  | succ d ih =>
    intro i hi hp
    have e1 : nI p + nI i = nI (p + i) := nI_add p i
    have e2 : nI q + nI i = nI (q + i) := nI_add q i
    refine br_f (nI_ge (by omega) (by omega)) ⟨pk_in (p + i) 30 (by omega) e1, pk_in (q + i) 30 (by omega) e2, br_c (fun h => nm_r (nI_1 i) ?_) (fun h => ?_)⟩
    · rw [pk_cl (p + i) e1, pk_cl (q + i) e2] at h
      exact ih (i + 1) (by omega) (lt_s hp h)
    · rw [pk_cl (p + i) e1, pk_cl (q + i) e2] at h
      exact hn i (by omega) h
theorem xs_same_trial {post : Int32 → Prop} {fc tl jl : Int32} {aS aL aO aT aJ : Nat → Int32} {x1 x2 x3 : Int32} (p q n : Nat) (h1 : p + n ≤ 30) (h2 : q + n ≤ 30) (hy : (∀ x, x < n → aT (p + x) = aS (q + x)) → post 1) (hn : ¬ (∀ x, x < n → aT (p + x) = aS (q + x)) → post 0) (e1 : x1 = nI p) (e2 : x2 = nI q) (e3 : x3 = nI n) : wpX_sameSymbols__trial post (fc, tl, jl, aS, aL, aO, aT, aJ) x1 x2 x3 := by
  subst e1 e2 e3
  exact ⟨n + 1, xs_same_trial_l h1 h2 hy (fun x hx h => hn (fun z => h (z x hx))) n 0 (by omega) (fun x hx => absurd hx (Nat.not_lt_zero x))⟩
theorem xs_place_trial_l {post : Int32 → Prop} {fc tl jl : Int32} {aS aL aO aT aJ : Nat → Int32} {s n j l : Nat} (hj : j < 5) (hl : aL j = nI l) (hl6 : l ≤ 6) (hn : s + n ≤ 30) (hy : ∀ p, p + l ≤ n → tx_St aT aS s j l p → (∀ b, b < p → ¬ tx_St aT aS s j l b) → post (nI p)) (hno : (∀ b, b + l ≤ n → ¬ tx_St aT aS s j l b) → post (-1)) : ∀ d p, p + d = n + 1 → (∀ b, b < p → ¬ tx_St aT aS s j l b) → wX_placeIn__trial_3 post (nI s) (nI n) (nI j) fc tl jl aS aL aO aT aJ (d + 1) (nI p) := by
  intro d
  have ec : aL (nI j).toNatClampNeg = nI l := by rw [nI_clamp (by omega)]; exact hl
  induction d with
  | zero =>
    intro p hp hb
    refine ⟨vp_in_nI hj (by omega), br_t ?_ (hno (fun b h => hb b (by omega)))⟩
    rw [ec, nI_add]
    exact nI_lt (by omega) (by omega)
  | succ d ih =>
    intro p hp hb
    by_cases c : p + l ≤ n
    · refine ⟨vp_in_nI hj (by omega), br_f ?_ ⟨vp_in_nI hj (by omega), ?_⟩⟩
      · rw [ec, nI_add]
        exact nI_nlt c (by omega)
      · refine xs_same_trial (s + p) (6 * j) l (by omega) (by omega) (fun h => ?_) (fun h => ?_) (nI_add s p) (nu_6 j) ec
        · exact br_f (by decide) (hy p c h hb)
        · exact br_t rfl (nm_r (nI_1 p) (ih (p + 1) (by omega) (lt_s hb h)))
    · refine ⟨vp_in_nI hj (by omega), br_t ?_ (hno (fun b h => hb b (by omega)))⟩
      rw [ec, nI_add]
      exact nI_lt (by omega) (by omega)
theorem xs_place_trial {post : Int32 → Prop} {fc tl jl : Int32} {aS aL aO aT aJ : Nat → Int32} {x1 x2 x3 : Int32} (s n j l : Nat) (hj : j < 5) (hl : aL j = nI l) (hl6 : l ≤ 6) (hn : s + n ≤ 30) (hy : ∀ p, p + l ≤ n → tx_St aT aS s j l p → (∀ b, b < p → ¬ tx_St aT aS s j l b) → post (nI p)) (hno : (∀ b, b + l ≤ n → ¬ tx_St aT aS s j l b) → post (-1)) (e1 : x1 = nI s) (e2 : x2 = nI n) (e3 : x3 = nI j) : wpX_placeIn__trial post (fc, tl, jl, aS, aL, aO, aT, aJ) x1 x2 x3 := by
  subst e1 e2 e3
  exact ⟨n + 1 + 1, xs_place_trial_l hj hl hl6 hn hy hno (n + 1) 0 (by omega) (fun b hb => absurd hb (Nat.not_lt_zero b))⟩
theorem xs_over_trial_l {post : Int32 → Prop} {fc tl jl : Int32} {aS aL aO aT aJ : Nat → Int32} {s n j l : Nat} (hj : j < 5) (hl6 : l ≤ 6) (hn : s + n ≤ 30) (hy : ∀ k, k ≤ n → k ≤ l → tx_Ov aT aS s n j k → (∀ q, k < q → q ≤ n → q ≤ l → ¬ tx_Ov aT aS s n j q) → post (nI k)) : ∀ k, k ≤ n → k ≤ l → (∀ q, k < q → q ≤ n → q ≤ l → ¬ tx_Ov aT aS s n j q) → wX_overlapWith__trial_28 post (nI s) (nI n) (nI j) fc tl jl aS aL aO aT aJ (k + 1) (nI k) := by
  intro k
  induction k with
  | zero =>
    intro h1 h2 hq
    exact br_t (by decide) (hy 0 h1 h2 (fun x hx => absurd hx (Nat.not_lt_zero x)) hq)
  | succ k ih =>
    intro h1 h2 hq
    refine br_f (nI_nle (by omega) (by omega)) ?_
    refine xs_same_trial (s + n - (k + 1)) (6 * j) (k + 1) (by omega) (by omega) (fun h => ?_) (fun h => ?_) (by rw [nI_add, pk_sub (by omega)]) (nu_6 j) rfl
    · exact br_f (by decide) (hy (k + 1) h1 h2 h hq)
    · refine br_t rfl (nm_r (pk_m1 k) (ih (by omega) (by omega) (fun q q1 q2 q3 => ?_)))
      by_cases c : q = k + 1
      · subst c; exact h
      · exact hq q (by omega) q2 q3
theorem xs_over_trial {post : Int32 → Prop} {fc tl jl : Int32} {aS aL aO aT aJ : Nat → Int32} {x1 x2 x3 : Int32} (s n j l : Nat) (hj : j < 5) (hl : aL j = nI l) (hl6 : l ≤ 6) (hn : s + n ≤ 30) (hy : ∀ k, k ≤ n → k ≤ l → tx_Ov aT aS s n j k → (∀ q, k < q → q ≤ n → q ≤ l → ¬ tx_Ov aT aS s n j q) → post (nI k)) (e1 : x1 = nI s) (e2 : x2 = nI n) (e3 : x3 = nI j) : wpX_overlapWith__trial post (fc, tl, jl, aS, aL, aO, aT, aJ) x1 x2 x3 := by
  subst e1 e2 e3
  have ec : aL (nI j).toNatClampNeg = nI l := by rw [nI_clamp (by omega)]; exact hl
  refine ⟨vp_in_nI hj (by omega), pk_le l n (fun h => ⟨vp_in_nI hj (by omega), nm_r ec ?_⟩) (fun h => ?_) ec rfl⟩
  · exact ⟨l + 1, xs_over_trial_l hj hl6 hn hy l h (Nat.le_refl _) (fun q q1 q2 q3 => by omega)⟩
  · exact ⟨n + 1, xs_over_trial_l hj hl6 hn hy n (Nat.le_refl _) (by omega) (fun q q1 q2 q3 => by omega)⟩
theorem xs_same_join_l {post : Int32 → Prop} {fc tl jl : Int32} {aS aL aO aT aJ : Nat → Int32} {p q n : Nat} (h1 : p + n ≤ 30) (h2 : q + n ≤ 30) (hy : (∀ x, x < n → aJ (p + x) = aS (q + x)) → post 1) (hn : ∀ x, x < n → ¬ aJ (p + x) = aS (q + x) → post 0) : ∀ d i, i + d = n → (∀ x, x < i → aJ (p + x) = aS (q + x)) → wX_sameSymbols__join_3 post (nI p) (nI q) (nI n) fc tl jl aS aL aO aT aJ (d + 1) (nI i) := by
  intro d
  induction d with
  | zero =>
    intro i hi hp
    have e : i = n := by omega
    subst e
    exact br_t (nI_le (Nat.le_refl _) (by omega)) (hy hp)
  | succ d ih =>
    intro i hi hp
    have e1 : nI p + nI i = nI (p + i) := nI_add p i
    have e2 : nI q + nI i = nI (q + i) := nI_add q i
    refine br_f (nI_ge (by omega) (by omega)) ⟨pk_in (p + i) 30 (by omega) e1, pk_in (q + i) 30 (by omega) e2, br_c (fun h => nm_r (nI_1 i) ?_) (fun h => ?_)⟩
    · rw [pk_cl (p + i) e1, pk_cl (q + i) e2] at h
      exact ih (i + 1) (by omega) (lt_s hp h)
    · rw [pk_cl (p + i) e1, pk_cl (q + i) e2] at h
      exact hn i (by omega) h
theorem xs_same_join {post : Int32 → Prop} {fc tl jl : Int32} {aS aL aO aT aJ : Nat → Int32} {x1 x2 x3 : Int32} (p q n : Nat) (h1 : p + n ≤ 30) (h2 : q + n ≤ 30) (hy : (∀ x, x < n → aJ (p + x) = aS (q + x)) → post 1) (hn : ¬ (∀ x, x < n → aJ (p + x) = aS (q + x)) → post 0) (e1 : x1 = nI p) (e2 : x2 = nI q) (e3 : x3 = nI n) : wpX_sameSymbols__join post (fc, tl, jl, aS, aL, aO, aT, aJ) x1 x2 x3 := by
  subst e1 e2 e3
  exact ⟨n + 1, xs_same_join_l h1 h2 hy (fun x hx h => hn (fun z => h (z x hx))) n 0 (by omega) (fun x hx => absurd hx (Nat.not_lt_zero x))⟩
theorem xs_place_join_l {post : Int32 → Prop} {fc tl jl : Int32} {aS aL aO aT aJ : Nat → Int32} {s n j l : Nat} (hj : j < 5) (hl : aL j = nI l) (hl6 : l ≤ 6) (hn : s + n ≤ 30) (hy : ∀ p, p + l ≤ n → tx_St aJ aS s j l p → (∀ b, b < p → ¬ tx_St aJ aS s j l b) → post (nI p)) (hno : (∀ b, b + l ≤ n → ¬ tx_St aJ aS s j l b) → post (-1)) : ∀ d p, p + d = n + 1 → (∀ b, b < p → ¬ tx_St aJ aS s j l b) → wX_placeIn__join_3 post (nI s) (nI n) (nI j) fc tl jl aS aL aO aT aJ (d + 1) (nI p) := by
  intro d
  have ec : aL (nI j).toNatClampNeg = nI l := by rw [nI_clamp (by omega)]; exact hl
  induction d with
  | zero =>
    intro p hp hb
    refine ⟨vp_in_nI hj (by omega), br_t ?_ (hno (fun b h => hb b (by omega)))⟩
    rw [ec, nI_add]
    exact nI_lt (by omega) (by omega)
  | succ d ih =>
    intro p hp hb
    by_cases c : p + l ≤ n
    · refine ⟨vp_in_nI hj (by omega), br_f ?_ ⟨vp_in_nI hj (by omega), ?_⟩⟩
      · rw [ec, nI_add]
        exact nI_nlt c (by omega)
      · refine xs_same_join (s + p) (6 * j) l (by omega) (by omega) (fun h => ?_) (fun h => ?_) (nI_add s p) (nu_6 j) ec
        · exact br_f (by decide) (hy p c h hb)
        · exact br_t rfl (nm_r (nI_1 p) (ih (p + 1) (by omega) (lt_s hb h)))
    · refine ⟨vp_in_nI hj (by omega), br_t ?_ (hno (fun b h => hb b (by omega)))⟩
      rw [ec, nI_add]
      exact nI_lt (by omega) (by omega)
theorem xs_place_join {post : Int32 → Prop} {fc tl jl : Int32} {aS aL aO aT aJ : Nat → Int32} {x1 x2 x3 : Int32} (s n j l : Nat) (hj : j < 5) (hl : aL j = nI l) (hl6 : l ≤ 6) (hn : s + n ≤ 30) (hy : ∀ p, p + l ≤ n → tx_St aJ aS s j l p → (∀ b, b < p → ¬ tx_St aJ aS s j l b) → post (nI p)) (hno : (∀ b, b + l ≤ n → ¬ tx_St aJ aS s j l b) → post (-1)) (e1 : x1 = nI s) (e2 : x2 = nI n) (e3 : x3 = nI j) : wpX_placeIn__join post (fc, tl, jl, aS, aL, aO, aT, aJ) x1 x2 x3 := by
  subst e1 e2 e3
  exact ⟨n + 1 + 1, xs_place_join_l hj hl hl6 hn hy hno (n + 1) 0 (by omega) (fun b hb => absurd hb (Nat.not_lt_zero b))⟩
end
section
/-! the joiner's trial: better, keep, extend, orders -/
def xt_Better (f : Nat → Nat) (t : Nat) (g : Nat → Nat) (m : Nat) : Prop := t < m ∨ (t = m ∧ ∃ d, d < t ∧ (∀ x, x < d → f x = g x) ∧ f d < g d)
theorem xt_better_l {post : Int32 → Prop} {fc : Int32} {aS aL aO aT aJ : Nat → Int32} {f g : Nat → Nat} {t : Nat} (ht : t ≤ 30) (hf : ∀ x, x < t → aT x = nI (f x) ∧ f x < 4) (hg : ∀ x, x < t → aJ x = nI (g x) ∧ g x < 4) (hy : xt_Better f t g t → post 1) (hn : ¬ xt_Better f t g t → post 0) : ∀ d i, i + d = t → (∀ x, x < i → f x = g x) → wX_trialIsBetter_30 post fc (nI t) (nI t) aS aL aO aT aJ (d + 1) (nI i) := by
  intro d
  induction d with
  | zero =>
    intro i hi hp
    refine br_t (nI_le (by omega) (by omega)) (hn ?_)
    rintro (h | ⟨_, d, h1, h2, h3⟩)
    · omega
    · have := hp d (by omega)
      omega
  | succ d ih =>
    intro i hi hp
    obtain ⟨f1, f2⟩ := hf i (by omega)
    obtain ⟨g1, g2⟩ := hg i (by omega)
    have ef : aT (nI i).toNatClampNeg = nI (f i) := by rw [nI_clamp (by omega)]; exact f1
    have eg : aJ (nI i).toNatClampNeg = nI (g i) := by rw [nI_clamp (by omega)]; exact g1
    have hv : vp_in (nI i) 30 := vp_in_nI (by omega) (by omega)
    refine br_f (nI_ge (by omega) (by omega)) ⟨hv, hv, pk_eq (f i) (g i) (fun h => nm_r (nI_1 i) (ih (i + 1) (by omega) (lt_s hp h))) (fun h => ⟨hv, hv, pk_le (g i) (f i) (fun h2 => hn ?_) (fun h2 => hy ?_) eg ef⟩) ef eg⟩
    · rintro (h3 | ⟨_, d, h3, h4, h5⟩)
      · omega
      · by_cases c1 : d < i
        · have := hp d c1
          omega
        · by_cases c2 : i < d
          · exact h (h4 i c2)
          · have : d = i := by omega
            subst this
            omega
    · exact Or.inr ⟨rfl, i, by omega, hp, h2⟩
theorem xt_better {post : Int32 → Prop} {fc : Int32} {aS aL aO aT aJ : Nat → Int32} {f g : Nat → Nat} {t m : Nat} (ht : t ≤ 30) (hm : m ≤ 30) (hf : ∀ x, x < t → aT x = nI (f x) ∧ f x < 4) (hg : ∀ x, x < m → aJ x = nI (g x) ∧ g x < 4) (hy : xt_Better f t g m → post 1) (hn : ¬ xt_Better f t g m → post 0) : wpX_trialIsBetter post (fc, nI t, nI m, aS, aL, aO, aT, aJ) := by
  refine pk_eq t m (fun h => ?_) (fun h => pk_le m t (fun h2 => hn ?_) (fun h2 => hy (Or.inl h2)))
  · subst h
    exact ⟨t + 1, xt_better_l ht hf hg hy hn t 0 (by omega) (fun x hx => absurd hx (Nat.not_lt_zero x))⟩
  · rintro (h3 | ⟨h3, _⟩)
    · omega
    · exact h h3
theorem xt_keep_l {post : SX → Prop} {fc jl : Int32} {aS aL aO aT : Nat → Int32} {t : Nat} (ht : t ≤ 30) (hp : ∀ aJ, (∀ x, x < t → aJ x = aT x) → post (fc, nI t, nI t, aS, aL, aO, aT, aJ)) : ∀ d i aJ, i + d = t → (∀ x, x < i → aJ x = aT x) → wX_keepTrial_2 post fc (nI t) jl (d + 1) (nI i) aS aL aO aT aJ := by
  intro d
  induction d with
  | zero =>
    intro i aJ hi h
    have e : i = t := by omega
    subst e
    exact br_t (nI_le (Nat.le_refl _) (by omega)) (hp aJ h)
  | succ d ih =>
    intro i aJ hi h
    have hv : vp_in (nI i) 30 := vp_in_nI (by omega) (by omega)
    refine br_f (nI_ge (by omega) (by omega)) ⟨hv, hv, nm_e (nm_r (nI_1 i) (ih (i + 1) _ (by omega) ?_))⟩
    rw [nI_clamp (by omega)]
    intro x hx
    by_cases c : x = i
    · subst c; exact pk_us
    · rw [pk_un c]; exact h x (by omega)
theorem xt_keep {post : SX → Prop} {fc jl : Int32} {aS aL aO aT aJ : Nat → Int32} {t : Nat} (ht : t ≤ 30) (hp : ∀ aJ, (∀ x, x < t → aJ x = aT x) → post (fc, nI t, nI t, aS, aL, aO, aT, aJ)) : wpX_keepTrial post (fc, nI t, jl, aS, aL, aO, aT, aJ) :=
  ⟨t + 1, xt_keep_l ht hp t 0 aJ (by omega) (fun x hx => absurd hx (Nat.not_lt_zero x))⟩
theorem xt_ext_l {post : SX → Prop} {fc jl : Int32} {aS aL aO aT aJ : Nat → Int32} {r l t s : Nat} (hr : r < 5) (hl : aL r = nI l) (hl6 : l ≤ 6) (hs : s ≤ l) (ht : t + (l - s) ≤ 30) (hp : ∀ a, (∀ x, x < t → a x = aT x) → (∀ y, y < l - s → a (t + y) = aS (6 * r + (s + y))) → post (fc, nI (t + (l - s)), jl, aS, aL, aO, a, aJ)) : ∀ d i a, i + d = l - s → (∀ x, x < t → a x = aT x) → (∀ y, y < i → a (t + y) = aS (6 * r + (s + y))) → wX_extendTrial_2 post (nI r) fc jl (d + 1) (nI (s + i)) (nI (t + i)) aS aL aO a aJ := by
  have ec : aL (nI r).toNatClampNeg = nI l := by rw [nI_clamp (by omega)]; exact hl
  intro d
  induction d with
  | zero =>
    intro i a hi h1 h2
    have e : i = l - s := by omega
    subst e
    refine ⟨vp_in_nI hr (by omega), br_t ?_ (hp a h1 h2)⟩
    rw [ec]
    exact nI_le (by omega) (by omega)
  | succ d ih =>
    intro i a hi h1 h2
    have e1 : nI r * 6 + nI (s + i) = nI (6 * r + (s + i)) := by rw [nu_6, nI_add]
    refine ⟨vp_in_nI hr (by omega), br_f ?_ ⟨pk_in (6 * r + (s + i)) 30 (by omega) e1, vp_in_nI (by omega) (by omega), nm_e (nm_r (nI_1 (t + i)) (nm_r (nI_1 (s + i)) (ih (i + 1) _ (by omega) ?_ ?_)))⟩⟩
    · rw [ec]
      exact nI_ge (by omega) (by omega)
    · rw [nI_clamp (by omega)]
      intro x hx
      rw [pk_un (by omega)]
      exact h1 x hx
    · rw [nI_clamp (by omega), pk_cl _ e1]
      intro y hy
      by_cases c : y = i
      · subst c; exact pk_us
      · rw [pk_un (by omega)]; exact h2 y (by omega)
theorem xt_ext {post : SX → Prop} {fc jl : Int32} {aS aL aO aT aJ : Nat → Int32} {r l t s : Nat} (hr : r < 5) (hl : aL r = nI l) (hl6 : l ≤ 6) (hs : s ≤ l) (ht : t + (l - s) ≤ 30) (hp : ∀ a, (∀ x, x < t → a x = aT x) → (∀ y, y < l - s → a (t + y) = aS (6 * r + (s + y))) → post (fc, nI (t + (l - s)), jl, aS, aL, aO, a, aJ)) : wpX_extendTrial post (fc, nI t, jl, aS, aL, aO, aT, aJ) (nI r) (nI s) :=
  ⟨l - s + 1, xt_ext_l hr hl hl6 hs ht hp (l - s) 0 aT (by omega) (fun _ _ => rfl) (fun x hx => absurd hx (Nat.not_lt_zero x))⟩
theorem xo_2 {post : SX → Prop} {fc tl jl : Int32} {aS aL aT aJ : Nat → Int32} : ∀ (d p rest : Nat) (o : Nat → Nat) (aO : Nat → Int32), d + p = 5 → rest < 2 ^ 31 → (∀ x, x < 5 → aO x = nI (o x)) → (∀ a, (∀ x, x < 5 → a x = nI (so_run d p rest o x)) → post (fc, tl, jl, aS, aL, a, aT, aJ)) → wX_setOrder_24 post fc tl jl (d + 1) (nI rest) (nI p) aS aL aO aT aJ := by
  intro d
  induction d with
  | zero =>
    intro p rest o aO h hr ho hp
    exact br_t (nI_le (a := 5) (by omega) (by omega)) (hp aO ho)
  | succ d ih =>
    intro p rest o aO h hr ho hp
    have hm : rest % (d + 1) < d + 1 := Nat.mod_lt _ (by omega)
    have e5 : (5 : Int32) - nI p = nI (d + 1) := (pk_sub (a := 5) (by omega)).trans (congrArg nI (by omega))
    have ne : ¬ nI (d + 1) = 0 := nI_ne0 (by omega) (by omega)
    have e6 : nI p + (nI rest - nI rest / nI (d + 1) * nI (d + 1)) = nI (p + rest % (d + 1)) := by
      rw [pk_rem hr (by omega) (by omega), nI_add]
    have hv : vp_in (nI (p + rest % (d + 1))) 5 := vp_in_nI (by omega) (by omega)
    have hvp : vp_in (nI p) 5 := vp_in_nI (by omega) (by omega)
    refine br_f (nI_ge (b := 5) (by omega) (by decide)) (nm_r e5 ⟨ne, nm_r e6 ⟨ne, nm_r (pk_div hr (by omega) (by omega)) ⟨hv, nm_e ⟨hvp, hv, nm_e ⟨hvp, nm_e (nm_r (nI_1 p) ?_)⟩⟩⟩⟩⟩)
    refine ih (p + 1) (rest / (d + 1)) (so_sw o p (p + rest % (d + 1))) _ (by omega) (Nat.lt_of_le_of_lt (Nat.div_le_self _ _) hr) ?_ hp
    rw [nI_clamp (by omega), nI_clamp (by omega)]
    intro x hx
    unfold so_sw
    by_cases c1 : x = p
    · rw [if_pos c1, c1, pk_us]
      exact ho _ (by omega)
    · rw [if_neg c1, pk_un c1]
      by_cases c2 : x = p + rest % (d + 1)
      · rw [if_pos c2, c2, pk_us]
        exact ho _ (by omega)
      · rw [if_neg c2, pk_un c2]
        exact ho _ hx
theorem xo_1 {post : SX → Prop} {fc tl jl : Int32} {aS aL aT aJ : Nat → Int32} {code : Nat} (hc : code < 120) (hp : ∀ a, (∀ x, x < 5 → a x = nI (so_run 5 0 code (fun x => x) x)) → post (fc, tl, jl, aS, aL, a, aT, aJ)) : ∀ (d p : Nat) (aO : Nat → Int32), p + d = 5 → (∀ x, x < p → aO x = nI x) → wX_setOrder_2 post (nI code) fc tl jl (d + 1) (nI p) aS aL aO aT aJ := by
  intro d
  induction d with
  | zero =>
    intro p aO h ho
    have e : p = 5 := by omega
    subst e
    exact br_t (nI_le (a := 5) (by omega) (by omega)) ⟨5 + 1, xo_2 5 0 code (fun x => x) aO rfl (by omega) ho hp⟩
  | succ d ih =>
    intro p aO h ho
    refine br_f (nI_ge (b := 5) (by omega) (by decide)) ⟨vp_in_nI (by omega) (by omega), nm_e (nm_r (nI_1 p) (ih (p + 1) _ (by omega) ?_))⟩
    rw [nI_clamp (by omega)]
    intro x hx
    by_cases c : x = p
    · subst c; exact pk_us
    · rw [pk_un c]; exact ho x (by omega)
theorem xo_set {post : SX → Prop} {fc tl jl : Int32} {aS aL aO aT aJ : Nat → Int32} {code : Nat} (hc : code < 120) (hp : ∀ a, (∀ x, x < 5 → a x = nI (so_run 5 0 code (fun x => x) x)) → post (fc, tl, jl, aS, aL, a, aT, aJ)) : wpX_setOrder post (fc, tl, jl, aS, aL, aO, aT, aJ) (nI code) :=
  ⟨5 + 1, xo_1 hc hp 5 0 aO rfl (fun x hx => absurd hx (Nat.not_lt_zero x))⟩
end
section
/-! joinInOrder and findJoin -/
theorem xj_40 {post : SX → Prop} {J : Int32 → Int32 → Int32 → Int32 → (Nat → Int32) → (Nat → Int32) → (Nat → Int32) → (Nat → Int32) → (Nat → Int32) → Prop} {x1 x3 fc tl jl : Int32} {aS aL aO aT aJ : Nat → Int32} {p : Nat} (h : J (nI (p + 1)) fc tl jl aS aL aO aT aJ) : wX_joinInOrder_40 post J x1 (nI p) x3 fc tl jl aS aL aO aT aJ :=
  br_t rfl (nm_r (nI_1 p) h)
theorem xj_41 {post : SX → Prop} {J : Int32 → Int32 → Int32 → Int32 → (Nat → Int32) → (Nat → Int32) → (Nat → Int32) → (Nat → Int32) → (Nat → Int32) → Prop} {x1 fc jl : Int32} {aS aL aO aT aJ : Nat → Int32} {p r l t : Nat} (hr : r < 5) (hl : aL r = nI l) (hl6 : l ≤ 6) (ht : t + l ≤ 30) (hskip : ∀ q, q + l ≤ t → tx_St aT aS 0 r l q → J (nI (p + 1)) fc (nI t) jl aS aL aO aT aJ) (hext : (∀ b, b + l ≤ t → ¬ tx_St aT aS 0 r l b) → ∀ s, s ≤ t → s ≤ l → tx_Ov aT aS 0 t r s → (∀ q, s < q → q ≤ t → q ≤ l → ¬ tx_Ov aT aS 0 t r q) → ∀ a, (∀ x, x < t → a x = aT x) → (∀ y, y < l - s → a (t + y) = aS (6 * r + (s + y))) → J (nI (p + 1)) fc (nI (t + (l - s))) jl aS aL aO a aJ) : wX_joinInOrder_41 post J x1 (nI p) (nI r) 1 fc (nI t) jl aS aL aO aT aJ := by
  refine br_f (by decide) (xs_place_trial 0 t r l hr hl hl6 (by omega) (fun q h1 h2 _ => br_f (fun e => nd_m1 (n := q) (by omega) e.symm) (nm_r (nI_1 p) (hskip q h1 h2))) (fun h => br_t rfl ?_) rfl rfl rfl)
  exact xs_over_trial 0 t r l hr hl hl6 (by omega) (fun k k1 k2 k3 k4 => xt_ext hr hl hl6 k2 (by omega) (fun a a1 a2 => nm_r (nI_1 p) (hext h k k1 k2 k3 k4 a a1 a2))) rfl rfl rfl
theorem xj_loop {post : SX → Prop} {c : Nat} {L : Nat → Nat} {sy : Nat → Nat → Nat} {W : Nat → Prop} {ch jl : Int32} {aS aL aO aJ : Nat → Int32} {o pl S : Nat → Nat} {nS : Nat} (P : pc_P c L sy (nI c) aS aL) (hWc : ∀ j, W j → j < c) (hW : ∀ r, r < c → ((ch >>> (nI r &&& 31)) &&& 1 = 1 ↔ W r)) (hS : st_First L sy W S nS) (hpl : ∀ j, W j → st_At L sy S nS j (pl j) ∧ ∀ p, st_At L sy S nS j p → pl j ≤ p) (ho : ∀ x, x < 5 → aO x = nI (o x) ∧ o x < 5) (hsur : ∀ j, W j → ∃ x, x < 5 ∧ o x = j) (hp : ∀ aT t f, t ≤ 30 → (∀ x, x < t → aT x = nI (f x) ∧ f x < 4) → ji_I L sy W o pl S nS 5 f t → post (nI c, nI t, jl, aS, aL, aO, aT, aJ)) : ∀ d p aT t f, p + d = 5 → t ≤ 6 * p → (∀ x, x < t → aT x = nI (f x) ∧ f x < 4) → ji_I L sy W o pl S nS p f t → wX_joinInOrder_7 post ch (d + 1) (nI p) (nI c) (nI t) jl aS aL aO aT aJ := by
  obtain ⟨_, hc, hL, hs⟩ := P
  intro d
  induction d with
  | zero =>
    intro p aT t f h ht hf hI
    have e : p = 5 := by omega
    subst e
    exact br_t (nI_le (a := 5) (by omega) (by omega)) (hp aT t f (by omega) hf hI)
  | succ d ih =>
    intro p aT t f h ht hf hI
    obtain ⟨o1, o2⟩ := ho p (by omega)
    have eo : aO (nI p).toNatClampNeg = nI (o p) := by rw [nI_clamp (by omega)]; exact o1
    refine br_f (nI_ge (b := 5) (by omega) (by decide)) ⟨vp_in_nI (by omega) (by omega), nm_r eo (pk_le c (o p) (fun h1 => xj_40 ?_) (fun h1 => br_c (fun h2 => ?_) (fun h2 => xj_40 ?_)))⟩
    · exact ih (p + 1) aT t f (by omega) (by omega) hf (ji_skip hpl hI (fun w => absurd (hWc _ w) (by omega)))
    · have w := (hW _ h1).mp h2
      obtain ⟨l1, l2⟩ := hL _ h1
      have hT : pc_T aT 0 t f := fun x hx => by rw [Nat.zero_add]; exact hf x hx
      have hsr := hs _ h1
      refine xj_41 o2 l1 l2 (by omega) (fun q q1 q2 => ?_) (fun hno s s1 s2 s3 s4 a a1 a2 => ?_)
      · exact ih (p + 1) aT t f (by omega) (by omega) hf (ji_skip hpl hI (fun _ => ⟨q, q1, (tx_at hT hsr q1).mp q2⟩))
      · refine ih (p + 1) a (t + (L (o p) - s)) (fun x => if x < t then f x else sy (o p) (s + (x - t))) (by omega) (by omega) ?_ (ji_ext hS hpl (by omega) hsur (fun x hx => (hsr x hx).2) hI w ?_ ⟨s1, s2, (tx_ov hT hsr s1 s2).mp s3⟩ ?_ (fun x hx => if_pos hx) ?_)
        · intro x hx
          by_cases cx : x < t
          · rw [if_pos cx, a1 x cx]
            exact hf x cx
          · have q := a2 (x - t) (by omega)
            rw [show t + (x - t) = x by omega] at q
            rw [if_neg cx, q]
            exact hsr _ (by omega)
        · rintro ⟨q, q1, q2⟩
          exact hno q q1 ((tx_at hT hsr q1).mpr q2)
        · rintro k ⟨k1, k2, k3⟩
          by_cases ck : k ≤ s
          · exact ck
          · exact absurd ((tx_ov hT hsr k1 k2).mpr k3) (s4 k (by omega) k1 k2)
        · intro y hy
          rw [if_neg (by omega), show t + y - t = y by omega]
    · exact ih (p + 1) aT t f (by omega) (by omega) hf (ji_skip hpl hI (fun w => absurd ((hW _ h1).mpr w) h2))
theorem xf_nobetter {L : Nat → Nat} {sy : Nat → Nat → Nat} {W : Nat → Prop} {S f g : Nat → Nat} {nS t m : Nat} (hS : st_First L sy W S nS) (hf : st_Ok L sy W f t) (hm : m = nS) (hg : ∀ x, x < m → g x = S x) : ¬ xt_Better f t g m := by
  subst hm
  obtain ⟨h1, h2⟩ := hS.2 f t hf
  rintro (h | ⟨e, d, d1, d2, d3⟩)
  · omega
  · have hd := hg d (by omega)
    rcases h2 e with h | ⟨b, b1, b2, b3⟩
    · have := h d (by omega)
      omega
    · by_cases c1 : b < d
      · have q1 := d2 b c1
        have q2 := hg b b1
        omega
      · by_cases c2 : d < b
        · have := b2 d c2
          omega
        · have : b = d := by omega
          subst this
          omega
theorem xf_same {L : Nat → Nat} {sy : Nat → Nat → Nat} {W : Nat → Prop} {S f g : Nat → Nat} {nS t m : Nat} (hS : st_First L sy W S nS) (hg : st_Ok L sy W g m) (ht : t = nS) (hf : ∀ x, x < t → f x = S x) (hb : ¬ xt_Better f t g m) : m = nS ∧ ∀ x, x < m → g x = S x := by
  subst ht
  obtain ⟨h1, h2⟩ := hS.2 g m hg
  have e : m = t := by
    by_cases c : t < m
    · exact absurd (Or.inl c) hb
    · omega
  refine ⟨e, ?_⟩
  rcases h2 e with h | ⟨b, b1, b2, b3⟩
  · intro x hx
    exact (h x (by omega)).symm
  · exfalso
    refine hb (Or.inr ⟨e.symm, b, b1, fun x hx => ?_, ?_⟩)
    · rw [hf x (by omega)]; exact b2 x hx
    · rw [hf b b1]; exact b3
def xf_I (L : Nat → Nat) (sy : Nat → Nat → Nat) (W : Nat → Prop) (pl S : Nat → Nat) (nS code : Nat) (jl : Int32) (aJ : Nat → Int32) : Prop := code = 0 ∨ ∃ g m, m ≤ 30 ∧ jl = nI m ∧ (∀ x, x < m → aJ x = nI (g x) ∧ g x < 4) ∧ st_Ok L sy W g m ∧ ((∃ q, q < code ∧ ji_Sorted pl (so_run 5 0 q (fun x => x))) → m = nS ∧ ∀ x, x < m → g x = S x)
theorem xf_29 {post : SX → Prop} {J : Int32 → Int32 → Int32 → Int32 → (Nat → Int32) → (Nat → Int32) → (Nat → Int32) → (Nat → Int32) → (Nat → Int32) → Prop} {x1 fc jl : Int32} {aS aL aO aT aJ : Nat → Int32} {code t : Nat} (ht : t ≤ 30) (h : ∀ a, (∀ x, x < t → a x = aT x) → J (nI (code + 1)) fc (nI t) (nI t) aS aL aO aT a) : wX_findJoin_29 post J x1 (nI code) fc (nI t) jl aS aL aO aT aJ :=
  xt_keep ht (fun a ha => nm_r (nI_1 code) (h a ha))
theorem xf_loop {post : SX → Prop} {c : Nat} {L : Nat → Nat} {sy : Nat → Nat → Nat} {W : Nat → Prop} {ch : Int32} {aS aL : Nat → Int32} {pl S : Nat → Nat} {nS : Nat} (P : pc_P c L sy (nI c) aS aL) (hWc : ∀ j, W j → j < c) (hW : ∀ r, r < c → ((ch >>> (nI r &&& 31)) &&& 1 = 1 ↔ W r)) (hS : st_First L sy W S nS) (hpl : ∀ j, W j → st_At L sy S nS j (pl j) ∧ ∀ p, st_At L sy S nS j p → pl j ≤ p) (hp : ∀ tl jl aO aT aJ, xf_I L sy W pl S nS 120 jl aJ → post (nI c, tl, jl, aS, aL, aO, aT, aJ)) : ∀ d code tl jl aO aT aJ, code + d = 120 → xf_I L sy W pl S nS code jl aJ → wX_findJoin_2 post ch (d + 1) (nI code) (nI c) tl jl aS aL aO aT aJ := by
  intro d
  induction d with
  | zero =>
    intro code tl jl aO aT aJ h hI
    have e : code = 120 := by omega
    subst e
    exact br_t (nI_le (a := 120) (by omega) (by omega)) (hp tl jl aO aT aJ hI)
  | succ d ih =>
    intro code tl jl aO aT aJ h hI
    refine br_f (nI_ge (b := 120) (by omega) (by decide)) (xo_set (by omega) (fun a ha => ?_))
    have ho : ∀ x, x < 5 → a x = nI (so_run 5 0 code (fun x => x) x) ∧ so_run 5 0 code (fun x => x) x < 5 := by
      intro x hx
      obtain ⟨y, _, y2, e⟩ := so_val 5 0 code (fun x => x) rfl x (Nat.zero_le _) hx
      exact ⟨ha x hx, by rw [e]; exact y2⟩
    have hc := P.2.1
    have hsur : ∀ j, W j → ∃ x, x < 5 ∧ so_run 5 0 code (fun x => x) x = j := fun j hj => so_sur code j (by have := hWc j hj; omega)
    refine ⟨5 + 1, xj_loop P hWc hW hS hpl ho hsur (fun bT t f t1 t2 t3 => ?_) 5 0 aT 0 (fun _ => 0) rfl (Nat.zero_le _) (fun x hx => absurd hx (Nat.not_lt_zero x)) ji_0⟩
    obtain ⟨ok, hso⟩ := ji_end hS hsur t3
    have keep : ((∃ q, q < code + 1 ∧ ji_Sorted pl (so_run 5 0 q (fun x => x))) → t = nS ∧ ∀ x, x < t → f x = S x) → wX_findJoin_29 post (wX_findJoin_2 post ch (d + 1)) ch (nI code) (nI c) (nI t) jl aS aL a bT aJ := by
      intro hk
      refine xf_29 t1 (fun b hb => ih (code + 1) (nI t) (nI t) a bT b (by omega) (Or.inr ⟨f, t, t1, rfl, fun x hx => ?_, ok, hk⟩))
      rw [hb x hx]
      exact t2 x hx
    rcases hI with h0 | ⟨g, m, m1, rfl, m3, m4, m5⟩
    · refine br_t (by rw [h0]; rfl) (keep ?_)
      rintro ⟨q, q1, q2⟩
      have : q = code := by omega
      subst this
      exact hso q2
    · refine pk_eq code 0 (fun h0 => keep ?_) (fun h0 => xt_better t1 m1 t2 m3 (fun hb => br_f (by decide) (keep ?_)) (fun hb => br_t rfl (nm_r (nI_1 code) (ih (code + 1) _ _ _ _ _ (by omega) (Or.inr ⟨g, m, m1, rfl, m3, m4, ?_⟩)))))
      · rintro ⟨q, q1, q2⟩
        have : q = code := by omega
        subst this
        exact hso q2
      · rintro ⟨q, q1, q2⟩
        by_cases cq : q < code
        · obtain ⟨e1, e2⟩ := m5 ⟨q, cq, q2⟩
          exact absurd hb (xf_nobetter hS ok e1 e2)
        · have : q = code := by omega
          subst this
          exact hso q2
      · rintro ⟨q, q1, q2⟩
        by_cases cq : q < code
        · exact m5 ⟨q, cq, q2⟩
        · have : q = code := by omega
          subst this
          obtain ⟨e1, e2⟩ := hso q2
          exact xf_same hS m4 e1 e2 hb
theorem xf_find {post : SX → Prop} {c : Nat} {L : Nat → Nat} {sy : Nat → Nat → Nat} {W : Nat → Prop} {ch tl jl : Int32} {aS aL aO aT aJ : Nat → Int32} (P : pc_P c L sy (nI c) aS aL) (hWc : ∀ j, W j → j < c) (hW : ∀ r, r < c → ((ch >>> (nI r &&& 31)) &&& 1 = 1 ↔ W r)) (hp : ∀ tl aO aT aJ S m, m ≤ 30 → st_First L sy W S m → (∀ x, x < m → aJ x = nI (S x) ∧ S x < 4) → post (nI c, tl, nI m, aS, aL, aO, aT, aJ)) : wpX_findJoin post (nI c, tl, jl, aS, aL, aO, aT, aJ) ch := by
  obtain ⟨S, nS, hn, hS⟩ := st_first_exists P.2.1 hWc (fun j hj => (P.2.2.1 j hj).2) (fun j hj x hx => (P.2.2.2 j hj x hx).2)
  have hex : ∀ j, ∃ p, W j → st_At L sy S nS j p ∧ ∀ q, st_At L sy S nS j q → p ≤ q := by
    intro j
    by_cases w : W j
    · obtain ⟨p, p1, p2⟩ := pk_least (fun p => st_At L sy S nS j p) (hS.1.2 j w)
      refine ⟨p, fun _ => ⟨p1, fun q hq => ?_⟩⟩
      by_cases cq : p ≤ q
      · exact cq
      · exact absurd hq (p2 q (by omega))
    · exact ⟨0, fun h => absurd h w⟩
  obtain ⟨pl, hpl⟩ : ∃ pl : Nat → Nat, ∀ j, W j → st_At L sy S nS j (pl j) ∧ ∀ q, st_At L sy S nS j q → pl j ≤ q := ⟨fun j => Classical.choose (hex j), fun j => Classical.choose_spec (hex j)⟩
  refine ⟨120 + 1, xf_loop P hWc hW hS hpl (fun tl jl aO aT aJ hI => ?_) 120 0 tl jl aO aT aJ rfl (Or.inl rfl)⟩
  rcases hI with h0 | ⟨g, m, m1, rfl, m3, m4, m5⟩
  · exact absurd h0 (by decide)
  · obtain ⟨e1, e2⟩ := m5 (so_all pl)
    refine hp tl aO aT aJ S m m1 (by rw [e1]; exact hS) (fun x hx => ?_)
    rw [← e2 x hx]
    exact m3 x hx
end
section
/-! what the reference asks: is, endsWith, follow, real, step, start -/
theorem nb_0 : narrow .boolean (.int 0) = .int 0 := rfl
theorem nb_1 : narrow .boolean (.int 1) = .int 1 := rfl
theorem bi_or : ∀ a, a < 32 → ∀ b, b < 32 → nI a ||| nI b = nI (a ||| b) := by decide +kernel
theorem bi_sh : ∀ j, j < 5 → (1 : Int32) <<< (nI j &&& 31) = nI (2 ^ j) := by decide +kernel
theorem bi_3 : ∀ l, l < 4 → nI l &&& 3 = nI l := by decide +kernel
theorem ys_is {post : Int32 → Prop} {c : Nat} {aZ aS aE aN aD aJ aW : Nat → Int32} (hc : c ≤ 5) (i : Int32) (hy : ∀ j, j < c → i = nI j → post 1) (hn : (i < 0 ∨ nI c ≤ i) → post 0) : wpY_is post (nI c, aZ, aS, aE, aN, aD, aJ, aW) i := by
  rcases pk_ix i (n := c) (by omega) with h | h | ⟨j, hj, rfl⟩
  · exact br_t h (hn (Or.inl h))
  · exact br_c (fun _ => hn (Or.inr h)) (fun _ => br_t h (hn (Or.inr h)))
  · exact br_f (nI_pos (by omega)) (br_f (nI_ge hj (by omega)) (hy j hj rfl))
theorem ye_0 {post : Int32 → Prop} {x1 x2 x3 x5 fc : Int32} {aZ aS aE aN aD aJ aW : Nat → Int32} (h : post 0) (d : Nat) : wY_endsWith_25 post x1 x2 x3 fc aZ aS aE aN aD aJ aW (d + 1) 0 x5 :=
  br_c (fun _ => ⟨nb_0, h⟩) (fun _ => br_t rfl ⟨nb_0, h⟩)
theorem ye_1 {post : Int32 → Prop} {fc : Int32} {aZ aS aE aN aD aJ aW : Nat → Int32} {L : Nat → Nat} {sy : Nat → Nat → Nat} {w : Nat → Nat} {n j k : Nat} (hn7 : n ≤ 7) (hj : j < 5) (hkn : k ≤ n) (hkl : k ≤ L j) (hl6 : L j ≤ 6) (hw : ∀ x, x < n → aW x = nI (w x) ∧ w x < 4) (hs : ∀ x, x < L j → aS (6 * j + x) = nI (sy j x) ∧ sy j x < 4) (hy : st_End L sy w n j k → post 1) (hn : ¬ st_End L sy w n j k → post 0) : ∀ d i, i + d = k → (∀ x, x < i → w (n - k + x) = sy j x) → wY_endsWith_25 post (nI n) (nI j) (nI k) fc aZ aS aE aN aD aJ aW (d + 1) 1 (nI i) := by
  intro d
  induction d with
  | zero =>
    intro i hi h
    have e : i = k := by omega
    subst e
    exact br_t (nI_le (Nat.le_refl _) (by omega)) ⟨nb_1, hy ⟨hkn, hkl, h⟩⟩
  | succ d ih =>
    intro i hi h
    have e1 : nI n - nI k + nI i = nI (n - k + i) := by rw [pk_sub hkn, nI_add]
    have e2 : 6 * nI j + nI i = nI (6 * j + i) := by rw [nu_6', nI_add]
    obtain ⟨w1, w2⟩ := hw (n - k + i) (by omega)
    obtain ⟨s1, s2⟩ := hs i (by omega)
    refine br_f (nI_ge (by omega) (by omega)) (br_f (by decide) ⟨pk_in (n - k + i) 7 (by omega) e1, pk_in (6 * j + i) 30 (by omega) e2, pk_eq (w (n - k + i)) (sy j i) (fun q => nm_r (nI_1 i) (ih (i + 1) (by omega) (lt_s h q))) (fun q => nm_e (ye_0 (hn ?_) d)) (by rw [pk_cl _ e1]; exact w1) (by rw [pk_cl _ e2]; exact s1)⟩)
    rintro ⟨_, _, z⟩
    exact q (z i (by omega))
theorem ye_ends {post : Int32 → Prop} {fc x1 x2 x3 : Int32} {aZ aS aE aN aD aJ aW : Nat → Int32} {L : Nat → Nat} {sy : Nat → Nat → Nat} {w : Nat → Nat} (n j k : Nat) (hn7 : n ≤ 7) (hj : j < 5) (hz : aZ j = nI (L j)) (hk : k ≤ 6) (hl6 : L j ≤ 6) (hw : ∀ x, x < n → aW x = nI (w x) ∧ w x < 4) (hs : ∀ x, x < L j → aS (6 * j + x) = nI (sy j x) ∧ sy j x < 4) (hy : st_End L sy w n j k → post 1) (hn : ¬ st_End L sy w n j k → post 0) (e1 : x1 = nI n) (e2 : x2 = nI j) (e3 : x3 = nI k) : wpY_endsWith post (fc, aZ, aS, aE, aN, aD, aJ, aW) x1 x2 x3 := by
  subst e1 e2 e3
  refine pk_lt n k (fun h => ⟨0 + 1, ye_0 (hn ?_) 0⟩) (fun h => ⟨vp_in_nI hj (by omega), pk_lt (L j) k (fun h2 => ⟨0 + 1, ye_0 (hn ?_) 0⟩) (fun h2 => ⟨k + 1, ye_1 hn7 hj h h2 hl6 hw hs hy hn k 0 (by omega) (fun x hx => absurd hx (Nat.not_lt_zero x))⟩) (by rw [nI_clamp (by omega)]; exact hz) rfl⟩)
  · rintro ⟨z, _⟩
    omega
  · rintro ⟨_, z, _⟩
    omega
/-- what follow knows when it is at length len and read j -/
def fo_I (c : Nat) (L : Nat → Nat) (sy : Nat → Nat → Nat) (w : Nat → Nat) (n len j found full : Nat) : Prop := found < 31 ∧ full < 32 ∧ au_Real c L found ∧ st_End L sy w n (au_ei found) (au_ek found) ∧ au_ek found ≤ len ∧ (∀ i, i < c → ∀ k, (k < len ∨ (k = len ∧ i < j)) → st_End L sy w n i k → k ≤ au_ek found) ∧ ∀ i, i < c → (full.testBit i = true ↔ 1 ≤ L i ∧ (L i < len ∨ (L i = len ∧ i < j)) ∧ st_End L sy w n i (L i))
theorem fo_0 {c : Nat} {L : Nat → Nat} {sy : Nat → Nat → Nat} {w : Nat → Nat} {n : Nat} : fo_I c L sy w n 1 0 0 0 := by
  refine ⟨by omega, by omega, Or.inl rfl, ⟨Nat.zero_le _, Nat.zero_le _, fun x hx => absurd hx (Nat.not_lt_zero x)⟩, Nat.zero_le _, fun i hi k hk _ => ?_, fun i hi => ?_⟩
  · show k ≤ 0
    omega
  · rw [Nat.zero_testBit]
    constructor
    · intro h
      exact absurd h (by decide)
    · rintro ⟨a, b, _⟩
      omega
theorem fo_no {c : Nat} {L : Nat → Nat} {sy : Nat → Nat → Nat} {w : Nat → Nat} {n len j found full : Nat} (h : fo_I c L sy w n len j found full) (hn : ¬ st_End L sy w n j len) : fo_I c L sy w n len (j + 1) found full := by
  obtain ⟨a1, a2, a3, a4, a5, a6, a7⟩ := h
  refine ⟨a1, a2, a3, a4, a5, fun i hi k hk he => ?_, fun i hi => ?_⟩
  · by_cases c1 : k = len ∧ i = j
    · obtain ⟨rfl, rfl⟩ := c1
      exact absurd he hn
    · exact a6 i hi k (by omega) he
  · rw [a7 i hi]
    constructor
    · rintro ⟨b1, b2, b3⟩
      exact ⟨b1, by omega, b3⟩
    · rintro ⟨b1, b2, b3⟩
      refine ⟨b1, ?_, b3⟩
      by_cases c1 : L i = len ∧ i = j
      · obtain ⟨c2, c3⟩ := c1
        subst c3
        rw [c2] at b3
        exact absurd b3 hn
      · omega
theorem fo_yes {c : Nat} {L : Nat → Nat} {sy : Nat → Nat → Nat} {w : Nat → Nat} {n len j found full : Nat} (hc : c ≤ 5) (hj : j < c) (h1 : 1 ≤ len) (h6 : len ≤ 6) (h : fo_I c L sy w n len j found full) (hy : st_End L sy w n j len) {full' : Nat} (hf : (L j = len → full' = full ||| 2 ^ j) ∧ (L j ≠ len → full' = full)) : fo_I c L sy w n len (j + 1) (6 * j + len) full' := by
  obtain ⟨a1, a2, a3, a4, a5, a6, a7⟩ := h
  have ek : au_ek (6 * j + len) = len := by
    unfold au_ek
    rw [if_neg (by omega)]
    omega
  have ei : au_ei (6 * j + len) = j := by
    unfold au_ei
    rw [if_neg (by omega)]
    omega
  have hl := hy.2.1
  refine ⟨by omega, ?_, Or.inr ⟨by omega, ?_⟩, by rw [ek, ei]; exact hy, by omega, fun i hi k hk he => by omega, fun i hi => ?_⟩
  · by_cases c1 : L j = len
    · rw [hf.1 c1]
      have h2 : 2 ^ j < 2 ^ 5 := Nat.pow_lt_pow_right (by decide) (by omega)
      exact Nat.or_lt_two_pow (n := 5) (by omega) h2
    · rw [hf.2 c1]; exact a2
  · rw [show (6 * j + len - 1) / 6 = j by omega]
    omega
  · by_cases c1 : L j = len
    · rw [hf.1 c1, Nat.testBit_or, Bool.or_eq_true, a7 i hi, Nat.testBit_two_pow, decide_eq_true_eq]
      constructor
      · rintro (⟨b1, b2, b3⟩ | rfl)
        · exact ⟨b1, by omega, b3⟩
        · exact ⟨by omega, by omega, by rw [c1]; exact hy⟩
      · rintro ⟨b1, b2, b3⟩
        by_cases c2 : j = i
        · exact Or.inr c2
        · exact Or.inl ⟨b1, by omega, b3⟩
    · rw [hf.2 c1, a7 i hi]
      constructor
      · rintro ⟨b1, b2, b3⟩
        exact ⟨b1, by omega, b3⟩
      · rintro ⟨b1, b2, b3⟩
        refine ⟨b1, ?_, b3⟩
        by_cases c2 : j = i
        · subst c2
          omega
        · omega
theorem fo_len {c : Nat} {L : Nat → Nat} {sy : Nat → Nat → Nat} {w : Nat → Nat} {n len j found full : Nat} (hj : c ≤ j) (h : fo_I c L sy w n len j found full) : fo_I c L sy w n (len + 1) 0 found full := by
  obtain ⟨a1, a2, a3, a4, a5, a6, a7⟩ := h
  refine ⟨a1, a2, a3, a4, by omega, fun i hi k hk he => a6 i hi k (by omega) he, fun i hi => ?_⟩
  rw [a7 i hi]
  constructor
  · rintro ⟨b1, b2, b3⟩
    exact ⟨b1, by omega, b3⟩
  · rintro ⟨b1, b2, b3⟩
    exact ⟨b1, by omega, b3⟩
theorem fo_94 {post : SY → Prop} {J : Int32 → Int32 → Int32 → Prop} {x1 x2 : Int32} {aZ aS aE aN aD aJ aW : Nat → Int32} {c : Nat} {L : Nat → Nat} {sy : Nat → Nat → Nat} {w : Nat → Nat} {k len : Nat} (P : pc_P c L sy (nI c) aS aZ) (hk : k ≤ 6) (hw : ∀ x, x < k + 1 → aW x = nI (w x) ∧ w x < 4) (h1 : 1 ≤ len) (h6 : len ≤ 6) (hJ : ∀ found full, fo_I c L sy w (k + 1) (len + 1) 0 found full → J (nI found) (nI full) (nI (len + 1))) : ∀ d j found full, j + d = c → fo_I c L sy w (k + 1) len j found full → wY_follow_94 post J x1 x2 (nI k) (nI len) (nI c) aZ aS aE aN aD aJ aW (d + 1) (nI found) (nI full) (nI j) := by
  obtain ⟨_, hc, hL, hs⟩ := P
  intro d
  induction d with
  | zero =>
    intro j found full hj h
    exact br_t (nI_le (by omega) (by omega)) (nm_r (nI_1 len) (hJ found full (fo_len (by omega) h)))
  | succ d ih =>
    intro j found full hj h
    obtain ⟨l1, l2⟩ := hL j (by omega)
    have h2 : 2 ^ j < 2 ^ 5 := Nat.pow_lt_pow_right (by decide) (by omega)
    have hf := h.2.1
    refine br_f (nI_ge (by omega) (by omega)) (ye_ends (k + 1) j len (by omega) (by omega) l1 h6 l2 hw (hs j (by omega)) (fun hy => ?_) (fun hn => ?_) (nI_1 k) rfl rfl)
    · have e : 1 + 6 * nI j + nI len - 1 = nI (6 * j + len) := by
        rw [nu_6', show (1 : Int32) = nI 1 from rfl, nI_add, nI_add, pk_sub (by omega)]
        exact congrArg nI (by omega)
      refine br_f (by decide) (nm_r e ⟨vp_in_nI (by omega) (by omega), pk_eq (L j) len (fun q => nm_r ?_ (nm_r (nI_1 j) (ih (j + 1) (6 * j + len) (full ||| 2 ^ j) (by omega) (fo_yes hc (by omega) h1 h6 h hy ⟨fun _ => rfl, fun z => absurd q z⟩)))) (fun q => nm_r (nI_1 j) (ih (j + 1) (6 * j + len) full (by omega) (fo_yes hc (by omega) h1 h6 h hy ⟨fun z => absurd z q, fun _ => rfl⟩))) (by rw [nI_clamp (by omega)]; exact l1) rfl⟩)
      rw [bi_sh j (by omega), bi_or full hf (2 ^ j) h2]
    · exact br_t rfl (nm_r (nI_1 j) (ih (j + 1) found full (by omega) (fo_no h hn)))
theorem fo_84 {post : SY → Prop} {e v : Nat} {aZ aS aE aN aD aJ aW : Nat → Int32} {c : Nat} {L : Nat → Nat} {sy : Nat → Nat → Nat} {w : Nat → Nat} {k : Nat} (he : e < 31) (hv : v < 4) (P : pc_P c L sy (nI c) aS aZ) (hk : k ≤ 6) (hw : ∀ x, x < k + 1 → aW x = nI (w x) ∧ w x < 4) (hp : ∀ found full, fo_I c L sy w (k + 1) 7 0 found full → post (nI c, aZ, aS, upd aE (4 * e + v) (nI found), upd aN (4 * e + v) (nI full), aD, aJ, aW)) : ∀ d len found full, len + d = 7 → 1 ≤ len → fo_I c L sy w (k + 1) len 0 found full → wY_follow_84 post (nI e) (nI v) (nI k) (nI c) aZ aS aE aN aD aJ aW (d + 1) (nI found) (nI full) (nI len) := by
  have e4 : 4 * nI e + nI v = nI (4 * e + v) := by
    rw [show (4 : Int32) = nI 4 from rfl, pk_mul, nI_add]
  intro d
  induction d with
  | zero =>
    intro len found full h h1 hI
    have el : len = 7 := by omega
    subst el
    refine br_t (nI_lt (a := 6) (by omega) (by omega)) ⟨pk_in (4 * e + v) 124 (by omega) e4, nm_e ⟨pk_in (4 * e + v) 124 (by omega) e4, nm_e ?_⟩⟩
    rw [pk_cl _ e4]
    exact hp found full hI
  | succ d ih =>
    intro len found full h h1 hI
    refine br_f (nI_nlt (a := 6) (by omega) (by decide)) ⟨c + 1, fo_94 P hk hw h1 (by omega) (fun fo fu hI' => ih (len + 1) fo fu (by omega) (by omega) hI') c 0 found full (by omega) hI⟩
end
section
/-! follow whole, real, step, start, some -/
theorem fo_spec {c : Nat} {L : Nat → Nat} {sy : Nat → Nat → Nat} {e v found full : Nat} (hL : ∀ j, j < c → L j ≤ 6) (h : fo_I c L sy (au_wd sy e v) (au_ek e + 1) 7 0 found full) : found < 31 ∧ full < 32 ∧ au_Spec c L sy e v found full := by
  obtain ⟨a1, a2, a3, a4, a5, a6, a7⟩ := h
  refine ⟨a1, a2, a3, a4, fun j hj k hk => a6 j hj k (by have := hL j hj; have := hk.2.1; omega) hk, fun j hj => ?_⟩
  rw [a7 j hj]
  have := hL j hj
  constructor
  · rintro ⟨b1, b2, b3⟩
    exact ⟨b1, b3⟩
  · rintro ⟨b1, b3⟩
    exact ⟨b1, by omega, b3⟩
theorem fo_36 {post : SY → Prop} {e v : Nat} {aZ aS aE aN aD aJ : Nat → Int32} {c : Nat} {L : Nat → Nat} {sy : Nat → Nat → Nat} (he : e < 31) (hv : v < 4) (P : pc_P c L sy (nI c) aS aZ) (hr : au_Real c L e) (hp : ∀ aW found full, found < 31 → full < 32 → au_Spec c L sy e v found full → post (nI c, aZ, aS, upd aE (4 * e + v) (nI found), upd aN (4 * e + v) (nI full), aD, aJ, aW)) : ∀ d i aW, i + d = au_ek e → (∀ x, x < i → aW x = nI (sy (au_ei e) x) ∧ sy (au_ei e) x < 4) → wY_follow_36 post (nI e) (nI v) (nI (au_ek e)) (nI (au_ei e)) (nI c) (d + 1) (nI i) aZ aS aE aN aD aJ aW := by
  have hk6 : au_ek e ≤ 6 := by
    unfold au_ek
    split <;> omega
  have hL := P.2.2.1
  have hs := P.2.2.2
  intro d
  induction d with
  | zero =>
    intro i aW hi h
    refine br_t (nI_le (by omega) (by omega)) ⟨vp_in_nI (by omega) (by omega), nm_e ⟨6 + 1, fo_84 (w := au_wd sy e v) he hv P hk6 ?_ (fun found full hI => ?_) 6 1 0 0 rfl (Nat.le_refl _) fo_0⟩⟩
    · rw [nI_clamp (by omega)]
      intro x hx
      unfold au_wd
      by_cases cx : x < au_ek e
      · rw [if_pos cx, pk_un (by omega)]
        exact h x (by omega)
      · have ex : x = au_ek e := by omega
        rw [if_neg cx, ex, pk_us]
        exact ⟨rfl, hv⟩
    · obtain ⟨f1, f2, f3⟩ := fo_spec (fun j hj => (hL j hj).2) hI
      exact hp _ found full f1 f2 f3
  | succ d ih =>
    intro i aW hi h
    have hreal : au_ei e < c ∧ i < L (au_ei e) ∧ au_ei e < 5 := by
      have hc := P.2.1
      rcases hr with h0 | ⟨r1, r2⟩
      · subst h0
        have : au_ek 0 = 0 := rfl
        omega
      · unfold au_ek at hi
        unfold au_ei
        split at hi
        · omega
        · rename_i h0
          rw [if_neg h0]
          omega
    obtain ⟨r1, r2, r3⟩ := hreal
    have l6 := (hL _ r1).2
    have e1 : 6 * nI (au_ei e) + nI i = nI (6 * au_ei e + i) := by rw [nu_6', nI_add]
    refine br_f (nI_ge (by omega) (by omega)) ⟨pk_in (6 * au_ei e + i) 30 (by omega) e1, vp_in_nI (by omega) (by omega), nm_e (nm_r (nI_1 i) (ih (i + 1) _ (by omega) ?_))⟩
    rw [nI_clamp (by omega), pk_cl _ e1]
    intro x hx
    by_cases cx : x = i
    · subst cx
      rw [pk_us]
      exact hs _ r1 x r2
    · rw [pk_un cx]
      exact h x (by omega)
theorem fo_follow {post : SY → Prop} {e v : Nat} {aZ aS aE aN aD aJ aW : Nat → Int32} {c : Nat} {L : Nat → Nat} {sy : Nat → Nat → Nat} (he : e < 31) (hv : v < 4) (P : pc_P c L sy (nI c) aS aZ) (hr : au_Real c L e) (hp : ∀ aW found full, found < 31 → full < 32 → au_Spec c L sy e v found full → post (nI c, aZ, aS, upd aE (4 * e + v) (nI found), upd aN (4 * e + v) (nI full), aD, aJ, aW)) : wpY_follow post (nI c, aZ, aS, aE, aN, aD, aJ, aW) (nI e) (nI v) := by
  have h := fo_36 (aE := aE) (aN := aN) (aD := aD) (aJ := aJ) he hv P hr hp (au_ek e) 0 aW (by omega) (fun x hx => absurd hx (Nat.not_lt_zero x))
  by_cases c0 : e = 0
  · subst c0
    exact br_t rfl (br_t rfl ⟨_, h⟩)
  · have ne : ¬ nI e = 0 := nI_ne0 (by omega) (by omega)
    have e1 : nI e - 1 = nI (e - 1) := pk_sub (b := 1) (by omega)
    have e2 : nI e - 1 - (nI e - 1) / 6 * 6 + 1 = nI (au_ek e) := by
      rw [e1, show (6 : Int32) = nI 6 from rfl, pk_rem (by omega) (by omega) (by omega), nI_1]
      unfold au_ek
      rw [if_neg c0]
    have e3 : (nI e - 1) / 6 = nI (au_ei e) := by
      rw [e1, show (6 : Int32) = nI 6 from rfl, pk_div (by omega) (by omega) (by omega)]
      unfold au_ei
      rw [if_neg c0]
    refine br_f ne ⟨by decide, ?_⟩
    rw [e2]
    exact br_f ne ⟨by decide, nm_r e3 ⟨_, h⟩⟩
theorem ys_real {post : Int32 → Prop} {x0 : Int32} {aZ aS aE aN aD aJ aW : Nat → Int32} {c : Nat} {L : Nat → Nat} {sy : Nat → Nat → Nat} (e : Nat) (he : e < 31) (P : pc_P c L sy (nI c) aS aZ) (hy : au_Real c L e → post 1) (hn : ¬ au_Real c L e → post 0) (e0 : x0 = nI e) : wpY_real post (nI c, aZ, aS, aE, aN, aD, aJ, aW) x0 := by
  subst e0
  obtain ⟨_, hc, hL, hs⟩ := P
  by_cases c0 : e = 0
  · subst c0
    exact br_t rfl (hy (Or.inl rfl))
  · have e1 : nI e - 1 = nI (e - 1) := pk_sub (b := 1) (by omega)
    have e2 : nI e - 1 - (nI e - 1) / 6 * 6 = nI ((e - 1) % 6) := by
      rw [e1, show (6 : Int32) = nI 6 from rfl, pk_rem (by omega) (by omega) (by omega)]
    have e3 : (nI e - 1) / 6 = nI ((e - 1) / 6) := by
      rw [e1, show (6 : Int32) = nI 6 from rfl, pk_div (by omega) (by omega) (by omega)]
    refine br_f (nI_ne0 (by omega) (by omega)) ⟨by decide, ys_is hc _ (fun j hj ej => ?_) (fun h => br_t rfl (hn ?_))⟩
    · rw [e3, nI_eq (by omega) (by omega)] at ej
      obtain ⟨l1, l2⟩ := hL j hj
      refine br_f (by decide) ⟨by decide, by decide, pk_in ((e - 1) / 6) 5 (by omega) e3, pk_le (L j) ((e - 1) % 6) (fun q => hn ?_) (fun q => hy (Or.inr ⟨by omega, by rw [ej]; exact q⟩)) (by rw [pk_cl _ e3, ej]; exact l1) e2⟩
      rintro (h | ⟨_, h⟩)
      · exact c0 h
      · rw [ej] at h
        omega
    · rw [e3] at h
      rintro (z | ⟨z, _⟩)
      · exact c0 z
      · rcases h with h | h
        · exact nI_pos (by omega) h
        · rw [nI_leI (by omega) (by omega)] at h
          omega
theorem ys_step {post : Int32 → Prop} {x0 x1 fc : Int32} {aZ aS aE aN aD aJ aW : Nat → Int32} {c : Nat} {L : Nat → Nat} {sy : Nat → Nat → Nat} (s v : Nat) (hT : au_T c L sy aE aN) (hs : s < 992) (hr : au_Real c L (s % 31)) (hv : v < 4) (hp : post (nI (au_st aE aN s v))) (e0 : x0 = nI s) (e1 : x1 = nI v) : wpY_step post (fc, aZ, aS, aE, aN, aD, aJ, aW) x0 x1 := by
  subst e0 e1
  obtain ⟨ne, nr, q1, q2, q3, q4, _, e, _⟩ := au_st_eq hT hr hs hv
  rw [e] at hp
  have d1 : nI s / 31 = nI (s / 31) := pk_div (d := 31) (by omega) (by omega) (by omega)
  have d2 : nI s - nI s / 31 * 31 = nI (s % 31) := pk_rem (d := 31) (by omega) (by omega) (by omega)
  have e4 : 4 * nI (s % 31) + nI v = nI (4 * (s % 31) + v) := by
    rw [show (4 : Int32) = nI 4 from rfl, pk_mul, nI_add]
  refine ⟨by decide, nm_r d1 ⟨by decide, nm_r d2 ⟨pk_in (4 * (s % 31) + v) 124 (by omega) e4, pk_in (4 * (s % 31) + v) 124 (by omega) e4, ?_⟩⟩⟩
  rw [pk_cl _ e4, q1, q2, bi_or _ (by omega) _ q4, show (31 : Int32) = nI 31 from rfl, pk_mul, nI_add]
  exact hp
theorem ys_start_l {post : Int32 → Prop} {aZ aS aE aN aD aJ aW : Nat → Int32} {c : Nat} {L : Nat → Nat} {sy : Nat → Nat → Nat} (P : pc_P c L sy (nI c) aS aZ) (hp : ∀ M, M < 32 → (∀ j, j < c → (M.testBit j = true ↔ L j = 0)) → post (nI (31 * M))) : ∀ d i M, i + d = c → M < 32 → (∀ j, j < c → (M.testBit j = true ↔ L j = 0 ∧ j < i)) → wY_start_4 post (nI c) aZ aS aE aN aD aJ aW (d + 1) (nI M) (nI i) := by
  obtain ⟨_, hc, hL, hs⟩ := P
  intro d
  induction d with
  | zero =>
    intro i M hi hM h
    refine br_t (nI_le (by omega) (by omega)) ?_
    rw [show (31 : Int32) = nI 31 from rfl, pk_mul]
    refine hp M hM (fun j hj => ?_)
    rw [h j hj]
    exact ⟨fun z => z.1, fun z => ⟨z, by omega⟩⟩
  | succ d ih =>
    intro i M hi hM h
    obtain ⟨l1, l2⟩ := hL i (by omega)
    have h2 : 2 ^ i < 2 ^ 5 := Nat.pow_lt_pow_right (by decide) (by omega)
    refine br_f (nI_ge (by omega) (by omega)) ⟨vp_in_nI (by omega) (by omega), pk_eq (L i) 0 (fun q => nm_r ?_ (nm_r (nI_1 i) (ih (i + 1) (M ||| 2 ^ i) (by omega) (Nat.or_lt_two_pow (n := 5) (by omega) h2) (fun j hj => ?_)))) (fun q => nm_r (nI_1 i) (ih (i + 1) M (by omega) hM (fun j hj => ?_))) (by rw [nI_clamp (by omega)]; exact l1) rfl⟩
    · rw [bi_sh i (by omega), bi_or M hM (2 ^ i) h2]
    · rw [Nat.testBit_or, Bool.or_eq_true, h j hj, Nat.testBit_two_pow, decide_eq_true_eq]
      constructor
      · rintro (⟨b1, b2⟩ | rfl)
        · exact ⟨b1, by omega⟩
        · exact ⟨q, by omega⟩
      · rintro ⟨b1, b2⟩
        by_cases cj : i = j
        · exact Or.inr cj
        · exact Or.inl ⟨b1, by omega⟩
    · rw [h j hj]
      constructor
      · rintro ⟨b1, b2⟩
        exact ⟨b1, by omega⟩
      · rintro ⟨b1, b2⟩
        refine ⟨b1, ?_⟩
        by_cases cj : i = j
        · subst cj
          exact absurd b1 q
        · omega
theorem ys_start {post : Int32 → Prop} {aZ aS aE aN aD aJ aW : Nat → Int32} {c : Nat} {L : Nat → Nat} {sy : Nat → Nat → Nat} (P : pc_P c L sy (nI c) aS aZ) (hp : ∀ s, s < 992 → (∀ f, au_Rep c L sy f 0 s) → post (nI s)) : wpY_start post (nI c, aZ, aS, aE, aN, aD, aJ, aW) := by
  refine ⟨c + 1, ys_start_l P (fun M hM h => hp (31 * M) (by omega) (fun f => ?_)) c 0 0 (by omega) (by omega) (fun j hj => ?_)⟩
  · unfold au_Rep
    have e1 : 31 * M % 31 = 0 := by omega
    have e2 : 31 * M / 31 = M := by omega
    rw [e1, e2]
    refine ⟨by omega, Or.inl rfl, fun j hj => ?_, ⟨Nat.zero_le _, Nat.zero_le _, fun x hx => absurd hx (Nat.not_lt_zero x)⟩, fun j hj k hk => hk.1⟩
    rw [h j hj]
    constructor
    · intro z
      exact ⟨0, by omega, fun x hx => by omega⟩
    · rintro ⟨p, p1, _⟩
      omega
  · rw [Nat.zero_testBit]
    constructor
    · intro h
      exact absurd h (by decide)
    · rintro ⟨_, h⟩
      omega
theorem ys_some_l {post : Int32 → Prop} {x2 fc : Int32} {aZ aS aE aN aD aJ aW : Nat → Int32} {c : Nat} {L : Nat → Nat} {sy : Nat → Nat → Nat} {s : Nat} (hT : au_T c L sy aE aN) (hs : s < 992) (hr : au_Real c L (s % 31)) (hy : (∃ v, v < 4 ∧ aD (au_st aE aN s v) = x2) → post 1) (hn : (¬ ∃ v, v < 4 ∧ aD (au_st aE aN s v) = x2) → post 0) : ∀ d v b, v + d = 4 → ((b = 0 ∧ ∀ i, i < v → ¬ aD (au_st aE aN s i) = x2) ∨ (b = 1 ∧ ∃ i, i < 4 ∧ aD (au_st aE aN s i) = x2)) → wY_some_5 post (nI s) x2 fc aZ aS aE aN aD aJ aW (d + 1) b (nI v) := by
  intro d
  induction d with
  | zero =>
    intro v b h hb
    have ev : v = 4 := by omega
    subst ev
    refine br_t (nI_le (a := 4) (by omega) (by omega)) ?_
    rcases hb with ⟨rfl, hb⟩ | ⟨rfl, hb⟩
    · exact ⟨nb_0, hn (fun ⟨i, h1, h2⟩ => hb i h1 h2)⟩
    · exact ⟨nb_1, hy hb⟩
  | succ d ih =>
    intro v b h hb
    obtain ⟨_, _, _, _, _, _, _, _, hst, _⟩ := au_st_eq hT hr hs (v := v) (by omega)
    refine br_f (nI_ge (b := 4) (by omega) (by decide)) (ys_step s v hT hs hr (by omega) ?_ rfl rfl)
    rcases hb with ⟨rfl, hb⟩ | ⟨rfl, hb⟩
    · refine br_t rfl ⟨vp_in_nI hst (by omega), br_c (fun q => nm_r (nI_1 v) (ih (v + 1) 1 (by omega) (Or.inr ⟨rfl, v, by omega, ?_⟩))) (fun q => nm_r (nI_1 v) (ih (v + 1) 0 (by omega) (Or.inl ⟨rfl, lt_s hb ?_⟩)))⟩
      · rw [nI_clamp (by omega)] at q
        exact q
      · rw [nI_clamp (by omega)] at q
        exact q
    · exact br_f (by decide) (nm_r (nI_1 v) (ih (v + 1) 1 (by omega) (Or.inr ⟨rfl, hb⟩)))
theorem ys_some {post : Int32 → Prop} {x0 x2 fc : Int32} {aZ aS aE aN aD aJ aW : Nat → Int32} {c : Nat} {L : Nat → Nat} {sy : Nat → Nat → Nat} (s : Nat) (hT : au_T c L sy aE aN) (hs : s < 992) (hr : au_Real c L (s % 31)) (hy : (∃ v, v < 4 ∧ aD (au_st aE aN s v) = x2) → post 1) (hn : (¬ ∃ v, v < 4 ∧ aD (au_st aE aN s v) = x2) → post 0) (e0 : x0 = nI s) : wpY_some post (fc, aZ, aS, aE, aN, aD, aJ, aW) x0 x2 := by
  subst e0
  exact ⟨4 + 1, ys_some_l hT hs hr hy hn 4 0 0 rfl (Or.inl ⟨rfl, fun i hi => absurd hi (Nat.not_lt_zero i)⟩)⟩
end
section
/-! solve -/
def yv_B (c : Nat) (L : Nat → Nat) (sy : Nat → Nat → Nat) (e v : Nat) (aE aN : Nat → Int32) : Prop := ∀ i x, ((i < e ∧ x < 4) ∨ (i = e ∧ x < v)) → i < 31 → au_Real c L i → au_TS c L sy aE aN i x
theorem yv_10 {post : Int32 → SY → Prop} {J : Int32 → Int32 → (Nat → Int32) → (Nat → Int32) → (Nat → Int32) → (Nat → Int32) → (Nat → Int32) → (Nat → Int32) → (Nat → Int32) → Prop} {x1 : Int32} {aZ aS aD aJ : Nat → Int32} {c : Nat} {L : Nat → Nat} {sy : Nat → Nat → Nat} {e : Nat} (he : e < 31) (P : pc_P c L sy (nI c) aS aZ) (hJ : ∀ aE aN aW, yv_B c L sy (e + 1) 0 aE aN → J (nI (e + 1)) (nI c) aZ aS aE aN aD aJ aW) : ∀ d v aE aN aW, v + d = 4 → yv_B c L sy e v aE aN → wY_solve_10 post J x1 (nI e) (d + 1) (nI v) (nI c) aZ aS aE aN aD aJ aW := by
  intro d
  induction d with
  | zero =>
    intro v aE aN aW h hB
    have ev : v = 4 := by omega
    subst ev
    exact br_t (nI_le (a := 4) (by omega) (by omega)) (nm_r (nI_1 e) (hJ aE aN aW (fun i x hx h1 h2 => hB i x (by omega) h1 h2)))
  | succ d ih =>
    intro v aE aN aW h hB
    refine br_f (nI_ge (b := 4) (by omega) (by decide)) (ys_real e he P (fun hr => br_f (by decide) (fo_follow he (by omega) P hr (fun bW found full f1 f2 f3 => nm_r (nI_1 v) (ih (v + 1) _ _ _ (by omega) ?_)))) (fun hr => br_t rfl (nm_r (nI_1 e) (hJ aE aN aW (fun i x hx h1 h2 => ?_)))) rfl)
    · intro i x hx h1 h2
      by_cases ci : i = e ∧ x = v
      · obtain ⟨rfl, rfl⟩ := ci
        exact ⟨found, full, pk_us, pk_us, f1, f2, f3⟩
      · obtain ⟨ne, nr, q1, q2, q3⟩ := hB i x (by omega) h1 h2
        refine ⟨ne, nr, ?_, ?_, q3⟩
        · rw [pk_un (by omega)]; exact q1
        · rw [pk_un (by omega)]; exact q2
    · by_cases ci : i = e
      · subst ci
        exact absurd h2 hr
      · exact hB i x (by omega) h1 h2
theorem yv_2 {post : Int32 → SY → Prop} {x1 : Int32} {aZ aS aD aJ : Nat → Int32} {c : Nat} {L : Nat → Nat} {sy : Nat → Nat → Nat} (P : pc_P c L sy (nI c) aS aZ) (hp : ∀ aE aN aW, au_T c L sy aE aN → ∃ n, wY_solve_43 post x1 (nI c) n 0 aZ aS aE aN aD aJ aW) : ∀ d e aE aN aW, e + d = 31 → yv_B c L sy e 0 aE aN → wY_solve_2 post x1 (d + 1) (nI e) (nI c) aZ aS aE aN aD aJ aW := by
  intro d
  induction d with
  | zero =>
    intro e aE aN aW h hB
    have ee : e = 31 := by omega
    subst ee
    exact br_t (nI_le (a := 31) (by omega) (by omega)) (hp aE aN aW (fun i x h1 h2 h3 => hB i x (by omega) h1 h2))
  | succ d ih =>
    intro e aE aN aW h hB
    exact br_f (nI_ge (b := 31) (by omega) (by decide)) ⟨4 + 1, yv_10 (by omega) P (fun bE bN bW hB' => ih (e + 1) bE bN bW (by omega) hB') 4 0 aE aN aW rfl hB⟩
theorem yv_43 {post : Int32 → SY → Prop} {wt : Int32} {aZ aS aE aN aJ aW : Nat → Int32} {c : Nat} {W : Nat → Prop} (hG : ∀ M, M < 32 → ((nI M &&& wt) = wt ↔ ∀ j, W j → M.testBit j = true)) (hp : ∀ aD, (∀ s, s < 992 → nd_I aE aN W 0 (aD s) s) → wpY_start (fun r => ∃ n, wY_solve_84 post r (nI c) n 1 aZ aS aE aN aD aJ aW) (nI c, aZ, aS, aE, aN, aD, aJ, aW)) : ∀ d s aD, s + d = 992 → (∀ i, i < s → nd_I aE aN W 0 (aD i) i) → wY_solve_43 post wt (nI c) (d + 1) (nI s) aZ aS aE aN aD aJ aW := by
  intro d
  induction d with
  | zero =>
    intro s aD h hI
    have es : s = 992 := by omega
    subst es
    exact br_t (nI_le (a := 992) (by omega) (by omega)) (hp aD hI)
  | succ d ih =>
    intro s aD h hI
    have d1 : nI s / 31 = nI (s / 31) := pk_div (d := 31) (by omega) (by omega) (by omega)
    have hv : vp_in (nI s) 992 := vp_in_nI (by omega) (by omega)
    refine br_f (nI_ge (b := 992) (by omega) (by decide)) ⟨by decide, br_c (fun q => ⟨hv, nm_e (nm_r (nI_1 s) (ih (s + 1) _ (by omega) ?_))⟩) (fun q => ⟨hv, nm_e (nm_r (nI_1 s) (ih (s + 1) _ (by omega) ?_))⟩)⟩
    · rw [d1, hG _ (by omega)] at q
      rw [nI_clamp (by omega)]
      intro i hi
      by_cases c1 : i = s
      · subst c1
        rw [pk_us]
        exact Or.inl ⟨0, Nat.le_refl _, rfl, q, fun i hi => absurd hi (Nat.not_lt_zero i)⟩
      · rw [pk_un c1]
        exact hI i (by omega)
    · rw [d1, hG _ (by omega)] at q
      rw [nI_clamp (by omega)]
      intro i hi
      by_cases c1 : i = s
      · subst c1
        rw [pk_us]
        refine Or.inr ⟨rfl, fun m hm hd => q ?_⟩
        have : m = 0 := by omega
        subst this
        exact hd
      · rw [pk_un c1]
        exact hI i (by omega)
theorem yv_102 {post : Int32 → SY → Prop} {J : Int32 → (Nat → Int32) → (Nat → Int32) → (Nat → Int32) → (Nat → Int32) → (Nat → Int32) → (Nat → Int32) → (Nat → Int32) → Prop} {x2 : Int32} {aZ aS aE aN aJ aW : Nat → Int32} {c : Nat} {L : Nat → Nat} {sy : Nat → Nat → Nat} {W : Nat → Prop} {Q : Nat} (hQ : Q ≤ 30) (P : pc_P c L sy (nI c) aS aZ) (hT : au_T c L sy aE aN) (hJ : ∀ aD, (∀ s, s < 992 → au_Real c L (s % 31) → nd_I aE aN W (Q + 1) (aD s) s) → J (nI (Q + 1 + 1)) aZ aS aE aN aD aJ aW) : ∀ d s aD, s + d = 992 → (∀ i, i < 992 → au_Real c L (i % 31) → nd_I aE aN W (if i < s then Q + 1 else Q) (aD i) i) → wY_solve_102 post J x2 (nI (Q + 1)) (nI c) (d + 1) (nI s) aZ aS aE aN aD aJ aW := by
  intro d
  induction d with
  | zero =>
    intro s aD h hI
    have es : s = 992 := by omega
    subst es
    refine br_t (nI_le (a := 992) (by omega) (by omega)) (nm_r (nI_1 (Q + 1)) (hJ aD (fun i h1 h2 => ?_)))
    have := hI i h1 h2
    rw [if_pos h1] at this
    exact this
  | succ d ih =>
    intro s aD h hI
    have hs : s < 992 := by omega
    have hv : vp_in (nI s) 992 := vp_in_nI hs (by omega)
    have same : (au_Real c L (s % 31) → nd_I aE aN W (Q + 1) (aD s) s) → ∀ i, i < 992 → au_Real c L (i % 31) → nd_I aE aN W (if i < s + 1 then Q + 1 else Q) (aD i) i := by
      intro hs1 i h1 h2
      by_cases c1 : i = s
      · subst c1
        rw [if_pos (by omega)]
        exact hs1 h2
      · have := hI i h1 h2
        by_cases c2 : i < s
        · rw [if_pos c2] at this
          rw [if_pos (by omega)]
          exact this
        · rw [if_neg c2] at this
          rw [if_neg (by omega)]
          exact this
    have hcell : au_Real c L (s % 31) → nd_I aE aN W Q (aD s) s := by
      intro hr
      have := hI s hs hr
      rw [if_neg (by omega)] at this
      exact this
    refine br_f (nI_ge (b := 992) (by omega) (by decide)) ⟨hv, br_c (fun q => nm_r (nI_1 s) (ih (s + 1) aD (by omega) (same (fun hr => ?_)))) (fun q => ⟨by decide, ys_real (s % 31) (Nat.mod_lt _ (by decide)) P (fun hr => br_f (by decide) (ys_some s hT hs hr (fun hy => br_f (by decide) ⟨hv, nm_e (nm_r (nI_1 s) (ih (s + 1) _ (by omega) ?_))⟩) (fun hn => br_t rfl (nm_r (nI_1 s) (ih (s + 1) aD (by omega) (same (fun hr => ?_))))) rfl)) (fun hr => br_t rfl (nm_r (nI_1 s) (ih (s + 1) aD (by omega) (same (fun z => absurd z hr))))) (pk_rem (d := 31) (by omega) (by omega) (by omega))⟩)⟩
    · rw [nI_clamp (by omega)] at q
      exact nd_up q (hcell hr)
    · rw [nI_clamp (by omega)] at q
      obtain ⟨a1, a2, a3⟩ := nd_step q (by omega) (hcell hr)
      obtain ⟨v, v1, v2⟩ := hy
      rw [nI_pred] at v2
      obtain ⟨ne, nr, _, _, _, _, sp, _, t1, t2, _⟩ := au_st_eq hT hr hs v1
      have hb := hI _ t1 (by rw [t2]; exact sp.1)
      have hd := (nd_eq (by split <;> omega) (by split <;> omega) hb).mp v2
      have hD : au_D aE aN W (Q + 1) s := a3.mpr ⟨v, v1, hd⟩
      rw [nI_clamp (by omega)]
      intro i h1 h2
      by_cases c1 : i = s
      · subst c1
        rw [pk_us, if_pos (by omega)]
        exact Or.inl ⟨Q + 1, Nat.le_refl _, rfl, hD, fun m hm => a2 m (by omega)⟩
      · rw [pk_un c1]
        have := hI i h1 h2
        by_cases c2 : i < s
        · rw [if_pos c2] at this
          rw [if_pos (by omega)]
          exact this
        · rw [if_neg c2] at this
          rw [if_neg (by omega)]
          exact this
    · rw [nI_clamp (by omega)] at q
      obtain ⟨a1, a2, a3⟩ := nd_step q (by omega) (hcell hr)
      refine Or.inr ⟨a1, fun m hm hd => ?_⟩
      by_cases c1 : m ≤ Q
      · exact a2 m c1 hd
      · have em : m = Q + 1 := by omega
        subst em
        obtain ⟨v, v1, v2⟩ := a3.mp hd
        obtain ⟨ne, nr, _, _, _, _, sp, _, t1, t2, _⟩ := au_st_eq hT hr hs v1
        have hb := hI _ t1 (by rw [t2]; exact sp.1)
        refine hn ⟨v, v1, ?_⟩
        rw [nI_pred]
        exact (nd_eq (by split <;> omega) (by split <;> omega) hb).mpr v2
theorem yv_84 {post : Int32 → SY → Prop} {aZ aS aE aN aJ aW : Nat → Int32} {c : Nat} {L : Nat → Nat} {sy : Nat → Nat → Nat} {W : Nat → Prop} {fs : Nat} (hfs : fs < 992) (hfr : au_Real c L (fs % 31)) (P : pc_P c L sy (nI c) aS aZ) (hT : au_T c L sy aE aN) (hex : ∃ m, m ≤ 30 ∧ au_D aE aN W m fs) (hp : ∀ aD Q m, Q ≤ 30 → m ≤ Q → (∀ s, s < 992 → au_Real c L (s % 31) → nd_I aE aN W Q (aD s) s) → au_D aE aN W m fs → (∀ i, i < m → ¬ au_D aE aN W i fs) → post (nI m) (nI c, aZ, aS, aE, aN, aD, aJ, aW)) : ∀ d Q aD, Q + d = 30 → (∀ s, s < 992 → au_Real c L (s % 31) → nd_I aE aN W Q (aD s) s) → wY_solve_84 post (nI fs) (nI c) (d + 1) (nI (Q + 1)) aZ aS aE aN aD aJ aW := by
  have hv : vp_in (nI fs) 992 := vp_in_nI hfs (by omega)
  have ec : (nI fs).toNatClampNeg = fs := nI_clamp (by omega)
  intro d
  induction d with
  | zero =>
    intro Q aD h hI
    have eQ : Q = 30 := by omega
    subst eQ
    refine br_t (nI_lt (a := 30) (by omega) (by omega)) ⟨hv, ?_⟩
    rw [ec]
    rcases hI fs hfs hfr with ⟨m, h1, h2, h3, h4⟩ | ⟨h1, h2⟩
    · rw [h2]
      exact hp aD 30 m (by omega) h1 hI h3 h4
    · obtain ⟨m, m1, m2⟩ := hex
      exact absurd m2 (h2 m m1)
  | succ d ih =>
    intro Q aD h hI
    refine br_f (nI_nlt (a := 30) (by omega) (by decide)) ⟨hv, ?_⟩
    rcases hI fs hfs hfr with ⟨m, h1, h2, h3, h4⟩ | ⟨h1, h2⟩
    · refine br_t ?_ ⟨hv, ?_⟩
      · rw [ec, h2]
        exact nI_pos' (by omega)
      · rw [ec, h2]
        exact hp aD Q m (by omega) h1 hI h3 h4
    · refine br_f ?_ ⟨992 + 1, yv_102 (by omega) P hT (fun bD hb => ih (Q + 1) bD (by omega) hb) 992 0 aD rfl (fun i i1 i2 => ?_)⟩
      · rw [ec, h1]
        decide
      · rw [if_neg (Nat.not_lt_zero i)]
        exact hI i i1 i2
def yv_Len (L : Nat → Nat) (sy : Nat → Nat → Nat) (W : Nat → Prop) (m : Nat) : Prop := (∃ g, st_Ok L sy W g m) ∧ ∀ g n, st_Ok L sy W g n → m ≤ n
theorem yv_D0 {c : Nat} {L : Nat → Nat} {sy : Nat → Nat → Nat} {aE aN : Nat → Int32} {W : Nat → Prop} (hT : au_T c L sy aE aN) (hW : ∀ j, W j → j < c) {s : Nat} (hR : ∀ f, au_Rep c L sy f 0 s) (m : Nat) : au_D aE aN W m s ↔ ∃ g, st_Ok L sy W g m := by
  rw [au_D_iff hT hW m (fun _ => 0) 0 s (hR _)]
  constructor
  · rintro ⟨g, _, g2, g3⟩
    rw [Nat.zero_add] at g2 g3
    exact ⟨g, fun x hx => g2 x (Nat.zero_le _) hx, g3⟩
  · rintro ⟨g, g2, g3⟩
    refine ⟨g, fun x hx => absurd hx (Nat.not_lt_zero x), ?_⟩
    rw [Nat.zero_add]
    exact ⟨fun x _ hx => g2 x hx, g3⟩
theorem yv_solve {post : Int32 → SY → Prop} {wt : Int32} {aZ aS aE aN aD aJ aW : Nat → Int32} {c : Nat} {L : Nat → Nat} {sy : Nat → Nat → Nat} {W : Nat → Prop} (P : pc_P c L sy (nI c) aS aZ) (hWc : ∀ j, W j → j < c) (hG : ∀ M, M < 32 → ((nI M &&& wt) = wt ↔ ∀ j, W j → M.testBit j = true)) (hp : ∀ aE aN aD aW Q m, au_T c L sy aE aN → Q ≤ 30 → m ≤ Q → (∀ s, s < 992 → au_Real c L (s % 31) → nd_I aE aN W Q (aD s) s) → yv_Len L sy W m → post (nI m) (nI c, aZ, aS, aE, aN, aD, aJ, aW)) : wpY_solve post (nI c, aZ, aS, aE, aN, aD, aJ, aW) wt := by
  refine ⟨31 + 1, yv_2 P (fun bE bN bW hT => ⟨992 + 1, yv_43 (W := W) hG (fun bD hb => ys_start P (fun fs hfs hR => ?_)) 992 0 aD rfl (fun i hi => absurd hi (Nat.not_lt_zero i))⟩) 31 0 aE aN aW rfl (fun i x hx => by omega)⟩
  obtain ⟨g, hg⟩ := st_some_ok P.2.1 hWc (fun j hj => (P.2.2.1 j hj).2) (fun j hj x hx => (P.2.2.2 j hj x hx).2)
  refine ⟨30 + 1, yv_84 hfs (hR (fun _ => 0)).2.1 P hT ⟨30, Nat.le_refl _, (yv_D0 hT hWc hR 30).mpr ⟨g, hg⟩⟩ (fun cD Q m h1 h2 h3 h4 h5 => hp bE bN cD bW Q m hT h1 h2 h3 ⟨(yv_D0 hT hWc hR m).mp h4, fun f n hf => ?_⟩) 30 0 bD rfl (fun s h1 _ => hb s h1)⟩
  by_cases c1 : m ≤ n
  · exact c1
  · exact absurd ((yv_D0 hT hWc hR n).mpr ⟨f, hf⟩) (h5 n (by omega))
theorem yv_len_first {L : Nat → Nat} {sy : Nat → Nat → Nat} {W : Nat → Prop} {S : Nat → Nat} {n m : Nat} (hS : st_First L sy W S n) (h : yv_Len L sy W m) : m = n := by
  obtain ⟨⟨g, hg⟩, h2⟩ := h
  have a := h2 S n hS.1
  have b := (hS.2 g m hg).1
  omega
end
section
/-! write -/
theorem yw_37 {post : Int32 → SY → Prop} {J : Int32 → Int32 → (Nat → Int32) → (Nat → Int32) → (Nat → Int32) → (Nat → Int32) → (Nat → Int32) → (Nat → Int32) → (Nat → Int32) → Prop} {fc : Int32} {aZ aS aE aN aD aJ aW : Nat → Int32} {c : Nat} {L : Nat → Nat} {sy : Nat → Nat → Nat} {n k s : Nat} (hT : au_T c L sy aE aN) (hs : s < 992) (hr : au_Real c L (s % 31)) (hk : k < n) (hn : n ≤ 30) (hex : ∃ v, v < 4 ∧ aD (au_st aE aN s v) = nI (n - 1 - k)) (hJ : ∀ v, v < 4 → aD (au_st aE aN s v) = nI (n - 1 - k) → (∀ i, i < 4 → aD (au_st aE aN s i) = nI (n - 1 - k) → v ≤ i) → J (nI (au_st aE aN s v)) (nI (k + 1)) aZ aS aE aN aD (upd aJ k (nI v)) aW) : ∀ i least x5, i ≤ 4 → x5 = nI i + (-1) → (∀ v, i ≤ v → v < 4 → aD (au_st aE aN s v) = nI (n - 1 - k) → least ≤ v) → (least = 4 ∨ (least < 4 ∧ aD (au_st aE aN s least) = nI (n - 1 - k))) → wY_write_37 post J (nI n) (nI s) (nI k) fc aZ aS aE aN aD aJ aW (i + 1) (nI least) x5 := by
  have en : nI n - 1 - nI k = nI (n - 1 - k) := by
    rw [show (1 : Int32) = nI 1 from rfl, pk_sub (by omega), pk_sub (by omega)]
  intro i
  induction i with
  | zero =>
    intro least x5 _ e5 h1 h2
    obtain ⟨v, v1, v2⟩ := hex
    have hl := h1 v (Nat.zero_le _) v1 v2
    have h3 : least < 4 ∧ aD (au_st aE aN s least) = nI (n - 1 - k) := by
      rcases h2 with h | h
      · omega
      · exact h
    subst e5
    refine br_t (by decide) ⟨vp_in_nI (by omega) (by omega), nm_e (ys_step s least hT hs hr h3.1 (nm_r (nI_1 k) ?_) rfl (bi_3 least h3.1))⟩
    rw [nI_clamp (by omega)]
    exact hJ least h3.1 h3.2 (fun i hi hh => h1 i (Nat.zero_le _) hi hh)
  | succ i ih =>
    intro least x5 hi e5 h1 h2
    rw [pk_m1] at e5
    subst e5
    obtain ⟨_, _, _, _, _, _, _, _, hst, _⟩ := au_st_eq hT hr hs (v := i) (by omega)
    have ec : (nI (au_st aE aN s i)).toNatClampNeg = au_st aE aN s i := nI_clamp (by omega)
    refine br_f (nI_pos (by omega)) (ys_step s i hT hs hr (by omega) ⟨vp_in_nI hst (by omega), br_c (fun q => nm_e (ih i _ (by omega) rfl ?_ ?_)) (fun q => nm_e (ih least _ (by omega) rfl ?_ h2))⟩ rfl rfl)
    · intro v v1 v2 v3
      exact v1
    · rw [ec, en] at q
      exact Or.inr ⟨by omega, q⟩
    · rw [ec, en] at q
      intro v v1 v2 v3
      by_cases cv : v = i
      · subst cv
        exact absurd v3 q
      · exact h1 v (by omega) v2 v3
theorem yw_20 {post : Int32 → SY → Prop} {aZ aS aE aN aD aW : Nat → Int32} {c : Nat} {L : Nat → Nat} {sy : Nat → Nat → Nat} {W : Nat → Prop} {n Q : Nat} (hWc : ∀ j, W j → j < c) (hT : au_T c L sy aE aN) (hQ : Q ≤ 30) (hn : n ≤ Q) (hD : ∀ s, s < 992 → au_Real c L (s % 31) → nd_I aE aN W Q (aD s) s) (hmin : ∀ g m, st_Ok L sy W g m → n ≤ m) (hp : ∀ aJ g, st_First L sy W g n → (∀ x, x < n → aJ x = nI (g x) ∧ g x < 4) → post (nI n) (nI c, aZ, aS, aE, aN, aD, aJ, aW)) : ∀ d k s f aJ, k + d = n → au_Rep c L sy f k s → (∀ x, x < k → aJ x = nI (f x) ∧ f x < 4) → au_D aE aN W d s → (∀ g, st_Ok L sy W g n → st_Le f g k) → wY_write_20 post (nI n) (nI c) (d + 1) (nI s) (nI k) aZ aS aE aN aD aJ aW := by
  intro d
  induction d with
  | zero =>
    intro k s f aJ h hR hf hd hl
    have ek : k = n := by omega
    subst ek
    refine br_t (nI_le (Nat.le_refl _) (by omega)) (hp aJ f ⟨⟨fun x hx => (hf x hx).2, fun j hj => (hR.2.2.1 j (hWc j hj)).mp (hd j hj)⟩, fun g m hg => ⟨hmin g m hg, fun e => ?_⟩⟩ hf)
    subst e
    exact hl g hg
  | succ d ih =>
    intro k s f aJ h hR hf hd hl
    have ed : n - 1 - k = d := by omega
    have hs := hR.1
    have hr := hR.2.1
    have hit : ∀ v, v < 4 → (aD (au_st aE aN s v) = nI (n - 1 - k) ↔ au_D aE aN W d (au_st aE aN s v)) := by
      intro v hv
      obtain ⟨ne, nr, _, _, _, _, sp, _, t1, t2, _⟩ := au_st_eq hT hr hs hv
      have hR' := au_step hT (f' := fun x => if x = k then v else f x) hR hv (fun x hx => if_neg (by omega)) (if_pos rfl)
      rw [ed, nd_eq (by omega) (by omega) (hD _ t1 (by rw [t2]; exact sp.1))]
      refine ⟨fun z => z.1, fun z => ⟨z, fun i hi hdi => ?_⟩⟩
      obtain ⟨g, g1, g2, g3⟩ := (au_D_iff hT hWc i _ _ _ hR').mp hdi
      have := hmin g (k + 1 + i) ⟨fun x hx => ?_, g3⟩
      · omega
      · by_cases cx : x < k + 1
        · rw [g1 x cx]
          by_cases ck : x = k
          · rw [if_pos ck]; exact hv
          · rw [if_neg ck]; exact (hf x (by omega)).2
        · exact g2 x (by omega) hx
    refine br_f (nI_ge (by omega) (by omega)) (br_f (nI_ge (b := 31) (by omega) (by decide)) ⟨4 + 1, yw_37 hT hs hr (by omega) (by omega) ?_ (fun v v1 v2 v3 => ih (k + 1) (au_st aE aN s v) (fun x => if x = k then v else f x) _ (by omega) (au_step hT hR v1 (fun x hx => if_neg (by omega)) (if_pos rfl)) ?_ ((hit v v1).mp v2) ?_) 4 4 _ (Nat.le_refl _) rfl (fun v v1 v2 => by omega) (Or.inl rfl)⟩)
    · obtain ⟨v, v1, v2⟩ := hd
      exact ⟨v, v1, (hit v v1).mpr v2⟩
    · intro x hx
      by_cases cx : x = k
      · subst cx
        rw [pk_us, if_pos rfl]
        exact ⟨rfl, v1⟩
      · rw [pk_un cx, if_neg cx]
        exact hf x (by omega)
    · intro g hg
      rcases hl g hg with e | ⟨b, b1, b2, b3⟩
      · have g4 : g k < 4 := hg.1 k (by omega)
        have hRg := au_step hT (f' := g) hR g4 (fun x hx => (e x hx).symm) rfl
        have hdg : au_D aE aN W d (au_st aE aN s (g k)) := by
          refine (au_D_iff hT hWc d _ _ _ hRg).mpr ⟨g, fun _ _ => rfl, fun x _ hx => hg.1 x (by omega), ?_⟩
          rw [show k + 1 + d = n by omega]
          exact hg.2
        have hle := v3 (g k) g4 ((hit _ g4).mpr hdg)
        by_cases c1 : v = g k
        · left
          intro x hx
          dsimp only
          by_cases cx : x = k
          · rw [if_pos cx, cx]; exact c1
          · rw [if_neg cx]; exact e x (by omega)
        · right
          refine ⟨k, by omega, fun x hx => ?_, ?_⟩
          · dsimp only
            rw [if_neg (by omega)]
            exact e x hx
          · dsimp only
            rw [if_pos rfl]
            omega
      · right
        refine ⟨b, by omega, fun x hx => ?_, ?_⟩
        · dsimp only
          rw [if_neg (by omega)]
          exact b2 x hx
        · dsimp only
          rw [if_neg (by omega)]
          exact b3
theorem bi_full : ∀ c, c < 6 → ∀ M, M < 32 → ((nI M &&& (((1 : Int32) <<< (nI c &&& 31)) - 1)) = (((1 : Int32) <<< (nI c &&& 31)) - 1) ↔ ∀ j, j < c → M.testBit j = true) := by decide +kernel
theorem yw_write {post : Int32 → SY → Prop} {aZ aS aE aN aD aJ aW : Nat → Int32} {c : Nat} {L : Nat → Nat} {sy : Nat → Nat → Nat} (P : pc_P c L sy (nI c) aS aZ) (hp : ∀ aE aN aD aJ aW g n, n ≤ 30 → st_First L sy (fun j => j < c) g n → (∀ x, x < n → aJ x = nI (g x) ∧ g x < 4) → post (nI n) (nI c, aZ, aS, aE, aN, aD, aJ, aW)) : wpY_write post (nI c, aZ, aS, aE, aN, aD, aJ, aW) := by
  have hc := P.2.1
  refine yv_solve (W := fun j => j < c) P (fun j hj => hj) (fun M hM => bi_full c (by omega) M hM) (fun bE bN bD bW Q m hT h1 h2 h3 h4 => ?_)
  refine ys_start P (fun fs hfs hR => ⟨m + 1, yw_20 (W := fun j => j < c) (fun j hj => hj) hT h1 h2 h3 h4.2 (fun cJ g hg hx => hp bE bN bD cJ bW g m (by omega) hg hx) m 0 fs (fun _ => 0) aJ (by omega) (hR _) (fun x hx => absurd hx (Nat.not_lt_zero x)) ((yv_D0 hT (fun j hj => hj) hR m).mpr h4.1) (fun g _ => Or.inl (fun x hx => absurd hx (Nat.not_lt_zero x)))⟩)
end
section
/-! the relation, and the methods that need no search -/
def i_Rel (k : Nat) (u : SX) (v : SY) : Prop := ∃ (c : Nat) (L : Nat → Nat) (sy : Nat → Nat → Nat), pc_P c L sy u.1 u.2.2.2.1 u.2.2.2.2.1 ∧ pc_P c L sy v.1 v.2.2.1 v.2.1
theorem i_up {k : Nat} {u : SX} {v : SY} (h : i_Rel k u v) : i_Rel (k + 3) u v := h
theorem i_vc0 : wpX_init (fun u => wpY_init (fun v => i_Rel 0 u v)) :=
  ⟨0, fun _ => 0, fun _ _ => 0, ⟨rfl, by omega, fun i hi => absurd hi (Nat.not_lt_zero i), fun i hi => absurd hi (Nat.not_lt_zero i)⟩, ⟨rfl, by omega, fun i hi => absurd hi (Nat.not_lt_zero i), fun i hi => absurd hi (Nat.not_lt_zero i)⟩⟩
theorem rl_get {k : Nat} {u : SX} {v : SY} (h : i_Rel k u v) : ∃ (c : Nat) (L : Nat → Nat) (sy : Nat → Nat → Nat) (tl jl : Int32) (aS aL aO aT aJ : Nat → Int32) (aZ bS aE aN aD bJ aW : Nat → Int32), u = (nI c, tl, jl, aS, aL, aO, aT, aJ) ∧ v = (nI c, aZ, bS, aE, aN, aD, bJ, aW) ∧ pc_P c L sy (nI c) aS aL ∧ pc_P c L sy (nI c) bS aZ := by
  obtain ⟨fc, tl, jl, aS, aL, aO, aT, aJ⟩ := u
  obtain ⟨gc, aZ, bS, aE, aN, aD, bJ, aW⟩ := v
  obtain ⟨c, L, sy, P, Q⟩ := h
  have e1 : fc = nI c := P.1
  have e2 : gc = nI c := Q.1
  subst e1 e2
  exact ⟨c, L, sy, tl, jl, aS, aL, aO, aT, aJ, aZ, bS, aE, aN, aD, bJ, aW, rfl, rfl, P, Q⟩
theorem rl_mk {k c : Nat} {L : Nat → Nat} {sy : Nat → Nat → Nat} {tl jl : Int32} {aS aL aO aT aJ aZ bS aE aN aD bJ aW : Nat → Int32} (P : pc_P c L sy (nI c) aS aL) (Q : pc_P c L sy (nI c) bS aZ) : i_Rel k (nI c, tl, jl, aS, aL, aO, aT, aJ) (nI c, aZ, bS, aE, aN, aD, bJ, aW) := ⟨c, L, sy, P, Q⟩
theorem ix_2 (i : Int32) {c : Nat} (hc : c ≤ 5) : (i < 0 ∨ nI c ≤ i) ∨ ∃ j, j < c ∧ i = nI j := by
  rcases pk_ix i (n := c) (by omega) with h | h | h
  · exact Or.inl (Or.inl h)
  · exact Or.inl (Or.inr h)
  · exact Or.inr h
theorem xr_no {post : Int32 → Prop} {c : Nat} {tl jl i : Int32} {aS aL aO aT aJ : Nat → Int32} (hi : i < 0 ∨ nI c ≤ i) (h : post 0) : wpX_isRead post (nI c, tl, jl, aS, aL, aO, aT, aJ) i := by
  rcases hi with hi | hi
  · exact br_t hi h
  · exact br_c (fun _ => h) (fun _ => br_t hi h)
theorem xr_yes {post : Int32 → Prop} {c j : Nat} {tl jl : Int32} {aS aL aO aT aJ : Nat → Int32} (hc : c ≤ 5) (hj : j < c) (h : post 1) : wpX_isRead post (nI c, tl, jl, aS, aL, aO, aT, aJ) (nI j) :=
  br_f (nI_pos (by omega)) (br_f (nI_ge hj (by omega)) h)
theorem yr_no {post : Int32 → Prop} {c : Nat} {i : Int32} {aZ aS aE aN aD aJ aW : Nat → Int32} (hi : i < 0 ∨ nI c ≤ i) (h : post 0) : wpY_is post (nI c, aZ, aS, aE, aN, aD, aJ, aW) i := by
  rcases hi with hi | hi
  · exact br_t hi h
  · exact br_c (fun _ => h) (fun _ => br_t hi h)
theorem yr_yes {post : Int32 → Prop} {c j : Nat} {aZ aS aE aN aD aJ aW : Nat → Int32} (hc : c ≤ 5) (hj : j < c) (h : post 1) : wpY_is post (nI c, aZ, aS, aE, aN, aD, aJ, aW) (nI j) :=
  br_f (nI_pos (by omega)) (br_f (nI_ge hj (by omega)) h)
theorem pc_begin {c : Nat} {L : Nat → Nat} {sy : Nat → Nat → Nat} {aS aL : Nat → Int32} (hc : c < 5) (P : pc_P c L sy (nI c) aS aL) : pc_P (c + 1) (fun i => if i = c then 0 else L i) sy (nI (c + 1)) aS (upd aL c 0) := by
  obtain ⟨_, _, hL, hs⟩ := P
  refine ⟨rfl, by omega, fun i hi => ?_, fun i hi x hx => ?_⟩
  · dsimp only
    by_cases ci : i = c
    · rw [if_pos ci, ci, pk_us]
      exact ⟨rfl, by omega⟩
    · rw [if_neg ci, pk_un ci]
      exact hL i (by omega)
  · dsimp only at hx
    by_cases ci : i = c
    · rw [if_pos ci] at hx
      omega
    · rw [if_neg ci] at hx
      exact hs i (by omega) x hx
theorem i_vc_begin {k : Nat} {u : SX} {v : SY} (I : i_Rel k u v) (hk : k + 3 ≤ 1536) : wpX_begin (fun r u' => wpY_begin (fun r' v' => r' = r ∧ i_Rel (k + 3) u' v') v) u := by
  obtain ⟨c, L, sy, tl, jl, aS, aL, aO, aT, aJ, aZ, bS, aE, aN, aD, bJ, aW, rfl, rfl, P, Q⟩ := rl_get I
  have hc := P.2.1
  by_cases h : c < 5
  · have hl : nI c < 5 := nI_lt (b := 5) h (by decide)
    have hv : vp_in (nI c) 5 := vp_in_nI h (by omega)
    have ec : (nI c).toNatClampNeg = c := nI_clamp (by omega)
    refine br_t hl ⟨hv, nm_e (nm_r (nI_1 c) (br_t hl ⟨hv, nm_e (nm_r (nI_1 c) ⟨rfl, ?_⟩)⟩))⟩
    rw [ec]
    exact rl_mk (pc_begin h P) (pc_begin h Q)
  · have hl : ¬ nI c < 5 := nI_nlt (b := 5) (by omega) (by omega)
    exact br_f hl (br_f hl ⟨rfl, rl_mk P Q⟩)
def pc_aS (j l v : Nat) (sy : Nat → Nat → Nat) : Nat → Nat → Nat := fun i x => if i = j ∧ x = l then v else sy i x
def pc_aL (j l : Nat) (L : Nat → Nat) : Nat → Nat := fun i => if i = j then l else L i
theorem pc_append {c : Nat} {L : Nat → Nat} {sy : Nat → Nat → Nat} {aS aL : Nat → Int32} {j v : Nat} (hj : j < c) (hl : L j < 6) (hv : v < 4) (P : pc_P c L sy (nI c) aS aL) : pc_P c (pc_aL j (L j + 1) L) (pc_aS j (L j) v sy) (nI c) (upd aS (6 * j + L j) (nI v)) (upd aL j (nI (L j + 1))) := by
  obtain ⟨_, hc, hL, hs⟩ := P
  refine ⟨rfl, hc, fun i hi => ?_, fun i hi x hx => ?_⟩
  · unfold pc_aL
    by_cases ci : i = j
    · rw [if_pos ci, ci, pk_us]
      exact ⟨rfl, by omega⟩
    · rw [if_neg ci, pk_un ci]
      exact hL i hi
  · unfold pc_aL at hx
    unfold pc_aS
    by_cases ci : i = j
    · rw [if_pos ci] at hx
      subst ci
      by_cases cx : x = L i
      · rw [if_pos ⟨rfl, cx⟩, cx, pk_us]
        exact ⟨rfl, hv⟩
      · rw [if_neg (fun z => cx z.2), pk_un (by omega)]
        exact hs i hi x (by omega)
    · rw [if_neg ci] at hx
      have h6 := (hL i hi).2
      rw [if_neg (fun z => ci z.1), pk_un (by omega)]
      exact hs i hi x hx
theorem i_vc_append {k : Nat} {u : SX} {v : SY} (I : i_Rel k u v) (hk : k + 3 ≤ 1536) (v1 : Int32) (v2 : Int32) : wpX_append (fun r u' => wpY_append (fun r' v' => r' = r ∧ i_Rel (k + 3) u' v') v v1 v2) u v1 v2 := by
  obtain ⟨c, L, sy, tl, jl, aS, aL, aO, aT, aJ, aZ, bS, aE, aN, aD, bJ, aW, rfl, rfl, P, Q⟩ := rl_get I
  have hc := P.2.1
  rcases ix_2 v1 hc with hi | ⟨j, hj, rfl⟩
  · unfold wpX_append
    dsimp only
    refine xr_no hi ?_
    refine br_t rfl ?_
    unfold wpY_append
    dsimp only
    refine yr_no hi ?_
    exact br_t rfl ⟨rfl, rl_mk P Q⟩
  · by_cases h0 : v2 < 0
    · unfold wpX_append
      dsimp only
      refine xr_yes hc hj ?_
      refine br_f (by decide) (br_t h0 ?_)
      unfold wpY_append
      dsimp only
      refine yr_yes hc hj ?_
      exact br_f (by decide) (br_t h0 ⟨rfl, rl_mk P Q⟩)
    · obtain ⟨x, hx, rfl⟩ := nI_of h0
      by_cases h4 : x < 4
      · have n4 : ¬ (4 : Int32) ≤ nI x := nI_ge (b := 4) h4 (by decide)
        have n3 : ¬ (3 : Int32) < nI x := nI_nlt (a := 3) (by omega) (by decide)
        have hv : vp_in (nI j) 5 := vp_in_nI (by omega) (by omega)
        have ec : (nI j).toNatClampNeg = j := nI_clamp (by omega)
        obtain ⟨l1, l2⟩ := P.2.2.1 j hj
        obtain ⟨z1, _⟩ := Q.2.2.1 j hj
        have el : aL (nI j).toNatClampNeg = nI (L j) := by rw [ec]; exact l1
        have ez : aZ (nI j).toNatClampNeg = nI (L j) := by rw [ec]; exact z1
        have ix : nI j * 6 + aL (nI j).toNatClampNeg = nI (6 * j + L j) := by rw [el, nu_6, nI_add]
        have iy : 6 * nI j + aZ (nI j).toNatClampNeg = nI (6 * j + L j) := by rw [ez, nu_6', nI_add]
        unfold wpX_append
        dsimp only
        refine xr_yes hc hj ?_
        refine br_f (by decide) (br_f h0 (br_f n4 ⟨hv, ?_⟩))
        by_cases h6 : L j < 6
        · have lx : aL (nI j).toNatClampNeg < 6 := by rw [el]; exact nI_lt (b := 6) h6 (by decide)
          have ly : aZ (nI j).toNatClampNeg < 6 := by rw [ez]; exact nI_lt (b := 6) h6 (by decide)
          refine br_t lx ⟨hv, pk_in _ 30 (by omega) ix, nm_e ⟨hv, hv, nm_e ?_⟩⟩
          unfold wpY_append
          dsimp only
          refine yr_yes hc hj ?_
          refine br_f (by decide) (br_f h0 (br_f n3 ⟨hv, br_t ly ⟨hv, pk_in _ 30 (by omega) iy, nm_e ⟨hv, hv, nm_e ⟨rfl, ?_⟩⟩⟩⟩))
          rw [pk_cl _ ix, pk_cl _ iy, ec, l1, z1, nI_1]
          exact rl_mk (pc_append hj h6 h4 P) (pc_append hj h6 h4 Q)
        · have lx : ¬ aL (nI j).toNatClampNeg < 6 := by rw [el]; exact nI_nlt (b := 6) (by omega) (by omega)
          have ly : ¬ aZ (nI j).toNatClampNeg < 6 := by rw [ez]; exact nI_nlt (b := 6) (by omega) (by omega)
          refine br_f lx ?_
          unfold wpY_append
          dsimp only
          refine yr_yes hc hj ?_
          exact br_f (by decide) (br_f h0 (br_f n3 ⟨hv, br_f ly ⟨rfl, rl_mk P Q⟩⟩))
      · have n4 : (4 : Int32) ≤ nI x := nI_le (a := 4) (by omega) hx
        have n3 : (3 : Int32) < nI x := nI_lt (a := 3) (by omega) hx
        unfold wpX_append
        dsimp only
        refine xr_yes hc hj ?_
        refine br_f (by decide) (br_f h0 (br_t n4 ?_))
        unfold wpY_append
        dsimp only
        refine yr_yes hc hj ?_
        exact br_f (by decide) (br_f h0 (br_t n3 ⟨rfl, rl_mk P Q⟩))
theorem pc_back {c : Nat} {L : Nat → Nat} {sy : Nat → Nat → Nat} {aS aL : Nat → Int32} {j : Nat} (hj : j < c) (P : pc_P c L sy (nI c) aS aL) : pc_P c (pc_aL j (L j - 1) L) sy (nI c) aS (upd aL j (nI (L j - 1))) := by
  obtain ⟨_, hc, hL, hs⟩ := P
  refine ⟨rfl, hc, fun i hi => ?_, fun i hi x hx => ?_⟩
  · unfold pc_aL
    by_cases ci : i = j
    · have := (hL j hj).2
      rw [if_pos ci, ci, pk_us]
      exact ⟨rfl, by omega⟩
    · rw [if_neg ci, pk_un ci]
      exact hL i hi
  · unfold pc_aL at hx
    by_cases ci : i = j
    · rw [if_pos ci] at hx
      subst ci
      exact hs i hi x (by omega)
    · rw [if_neg ci] at hx
      exact hs i hi x hx
theorem i_vc_back {k : Nat} {u : SX} {v : SY} (I : i_Rel k u v) (hk : k + 3 ≤ 1536) (v1 : Int32) : wpX_back (fun r u' => wpY_back (fun r' v' => r' = r ∧ i_Rel (k + 3) u' v') v v1) u v1 := by
  obtain ⟨c, L, sy, tl, jl, aS, aL, aO, aT, aJ, aZ, bS, aE, aN, aD, bJ, aW, rfl, rfl, P, Q⟩ := rl_get I
  have hc := P.2.1
  rcases ix_2 v1 hc with hi | ⟨j, hj, rfl⟩
  · unfold wpX_back
    dsimp only
    refine xr_no hi ?_
    refine br_t rfl ?_
    unfold wpY_back
    dsimp only
    refine yr_no hi ?_
    exact br_t rfl ⟨rfl, rl_mk P Q⟩
  · have hv : vp_in (nI j) 5 := vp_in_nI (by omega) (by omega)
    have ec : (nI j).toNatClampNeg = j := nI_clamp (by omega)
    obtain ⟨l1, l2⟩ := P.2.2.1 j hj
    obtain ⟨z1, _⟩ := Q.2.2.1 j hj
    have el : aL (nI j).toNatClampNeg = nI (L j) := by rw [ec]; exact l1
    have ez : aZ (nI j).toNatClampNeg = nI (L j) := by rw [ec]; exact z1
    unfold wpX_back
    dsimp only
    refine xr_yes hc hj ?_
    refine br_f (by decide) ⟨hv, ?_⟩
    by_cases h0 : L j = 0
    · have lx : aL (nI j).toNatClampNeg = 0 := by rw [el, h0]; rfl
      have ly : aZ (nI j).toNatClampNeg = 0 := by rw [ez, h0]; rfl
      refine br_t lx ?_
      unfold wpY_back
      dsimp only
      refine yr_yes hc hj ?_
      exact br_f (by decide) ⟨hv, br_t ly ⟨rfl, rl_mk P Q⟩⟩
    · have lx : ¬ aL (nI j).toNatClampNeg = 0 := by rw [el]; exact nI_ne0 (by omega) (by omega)
      have ly : ¬ aZ (nI j).toNatClampNeg = 0 := by rw [ez]; exact nI_ne0 (by omega) (by omega)
      have ux : upd aL (nI j).toNatClampNeg (aL (nI j).toNatClampNeg - 1) = upd aL j (nI (L j - 1)) := by
        rw [el, ec, show (1 : Int32) = nI 1 from rfl, pk_sub (by omega)]
      have uy : upd aZ (nI j).toNatClampNeg (aZ (nI j).toNatClampNeg - 1) = upd aZ j (nI (L j - 1)) := by
        rw [ez, ec, show (1 : Int32) = nI 1 from rfl, pk_sub (by omega)]
      have ix : nI j * 6 + upd aL j (nI (L j - 1)) (nI j).toNatClampNeg = nI (6 * j + (L j - 1)) := by rw [ec, pk_us, nu_6, nI_add]
      have iy : 6 * nI j + upd aZ j (nI (L j - 1)) (nI j).toNatClampNeg = nI (6 * j + (L j - 1)) := by rw [ec, pk_us, nu_6', nI_add]
      refine br_f lx ⟨hv, hv, nm_r ux ⟨hv, pk_in _ 30 (by omega) ix, ?_⟩⟩
      unfold wpY_back
      dsimp only
      refine yr_yes hc hj ?_
      refine br_f (by decide) ⟨hv, br_f ly ⟨hv, hv, nm_r uy ⟨hv, pk_in _ 30 (by omega) iy, ?_, rl_mk (pc_back hj P) (pc_back hj Q)⟩⟩⟩
      rw [pk_cl _ ix, pk_cl _ iy, (P.2.2.2 j hj _ (by omega)).1, (Q.2.2.2 j hj _ (by omega)).1]
theorem i_vc_reads {k : Nat} {u : SX} {v : SY} (I : i_Rel k u v) (hk : k + 3 ≤ 1536) : wpX_reads (fun r => wpY_reads (fun r' => r' = r ∧ i_Rel (k + 3) u v) v) u := by
  obtain ⟨c, L, sy, tl, jl, aS, aL, aO, aT, aJ, aZ, bS, aE, aN, aD, bJ, aW, rfl, rfl, P, Q⟩ := rl_get I
  exact ⟨rfl, rl_mk P Q⟩
theorem i_vc_length {k : Nat} {u : SX} {v : SY} (I : i_Rel k u v) (hk : k + 3 ≤ 1536) (v1 : Int32) : wpX_length (fun r => wpY_length (fun r' => r' = r ∧ i_Rel (k + 3) u v) v v1) u v1 := by
  obtain ⟨c, L, sy, tl, jl, aS, aL, aO, aT, aJ, aZ, bS, aE, aN, aD, bJ, aW, rfl, rfl, P, Q⟩ := rl_get I
  have hc := P.2.1
  rcases ix_2 v1 hc with hi | ⟨j, hj, rfl⟩
  · unfold wpX_length
    dsimp only
    refine xr_no hi ?_
    refine br_t rfl ?_
    unfold wpY_length
    dsimp only
    refine yr_no hi ?_
    exact br_t rfl ⟨rfl, rl_mk P Q⟩
  · have hv : vp_in (nI j) 5 := vp_in_nI (by omega) (by omega)
    have ec : (nI j).toNatClampNeg = j := nI_clamp (by omega)
    unfold wpX_length
    dsimp only
    refine xr_yes hc hj ?_
    refine br_f (by decide) ⟨hv, ?_⟩
    unfold wpY_length
    dsimp only
    refine yr_yes hc hj ?_
    refine br_f (by decide) ⟨hv, ?_, rl_mk P Q⟩
    rw [ec, (P.2.2.1 j hj).1, (Q.2.2.1 j hj).1]
end
section
/-! remove -/
def mv_L (i : Nat) (L : Nat → Nat) : Nat → Nat := fun j => if j < i then L j else L (j + 1)
def mv_S (i : Nat) (sy : Nat → Nat → Nat) : Nat → Nat → Nat := fun j x => if j < i then sy j x else sy (j + 1) x
def mv_I (c i r : Nat) (L : Nat → Nat) (sy : Nat → Nat → Nat) (aS aL : Nat → Int32) : Prop := (∀ j, j + 1 < r → aL j = nI (mv_L i L j) ∧ ∀ x, x < mv_L i L j → aS (6 * j + x) = nI (mv_S i sy j x)) ∧ ∀ j, r ≤ j → j < c → aL j = nI (L j) ∧ ∀ x, x < L j → aS (6 * j + x) = nI (sy j x)
theorem mv_0 {c i : Nat} {L : Nat → Nat} {sy : Nat → Nat → Nat} {aS aL : Nat → Int32} (hi : i < c) (P : pc_P c L sy (nI c) aS aL) : mv_I c i (i + 1) L sy aS aL := by
  obtain ⟨_, hc, hL, hs⟩ := P
  refine ⟨fun j hj => ?_, fun j h1 h2 => ⟨(hL j h2).1, fun x hx => (hs j h2 x hx).1⟩⟩
  unfold mv_L mv_S
  rw [if_pos (show j < i by omega)]
  exact ⟨(hL j (by omega)).1, fun x hx => by rw [if_pos (show j < i by omega)]; exact (hs j (by omega) x hx).1⟩
theorem mv_step {c i r : Nat} {L : Nat → Nat} {sy : Nat → Nat → Nat} {aS aL bS bL : Nat → Int32} (hir : i < r) (hrc : r < c) (hL6 : ∀ j, j < c → L j ≤ 6) (h : mv_I c i r L sy aS aL) (hb : bL = upd aL (r - 1) (nI (L r))) (h1 : ∀ x, x < L r → bS (6 * (r - 1) + x) = aS (6 * r + x)) (h2 : ∀ y, (y < 6 * (r - 1) ∨ 6 * r ≤ y) → bS y = aS y) : mv_I c i (r + 1) L sy bS bL := by
  obtain ⟨a, b⟩ := h
  subst hb
  refine ⟨fun j hj => ?_, fun j j1 j2 => ?_⟩
  · by_cases cj : j = r - 1
    · have ej : j + 1 = r := by omega
      have eL : mv_L i L j = L r := by
        unfold mv_L
        rw [if_neg (by omega), ej]
      refine ⟨by rw [cj, pk_us, ← cj, eL], fun x hx => ?_⟩
      rw [eL] at hx
      have e := h1 x hx
      rw [← cj] at e
      rw [e, (b r (Nat.le_refl _) hrc).2 x hx]
      unfold mv_S
      rw [if_neg (by omega), ej]
    · obtain ⟨q1, q2⟩ := a j (by omega)
      refine ⟨by rw [pk_un cj]; exact q1, fun x hx => ?_⟩
      have l6 : mv_L i L j ≤ 6 := by
        unfold mv_L
        split
        · exact hL6 _ (by omega)
        · exact hL6 _ (by omega)
      rw [h2 _ (by omega)]
      exact q2 x hx
  · obtain ⟨q1, q2⟩ := b j (by omega) j2
    refine ⟨by rw [pk_un (by omega)]; exact q1, fun x hx => ?_⟩
    rw [h2 _ (by omega)]
    exact q2 x hx
theorem mv_end {c i : Nat} {L : Nat → Nat} {sy : Nat → Nat → Nat} {aS aL bS bL : Nat → Int32} (hi : i < c) (P : pc_P c L sy (nI c) aS aL) (h : mv_I c i c L sy bS bL) : pc_P (c - 1) (mv_L i L) (mv_S i sy) (nI (c - 1)) bS bL := by
  obtain ⟨_, hc, hL, hs⟩ := P
  obtain ⟨a, _⟩ := h
  refine ⟨rfl, by omega, fun j hj => ⟨(a j (by omega)).1, ?_⟩, fun j hj x hx => ⟨(a j (by omega)).2 x hx, ?_⟩⟩
  · unfold mv_L
    split
    · exact (hL _ (by omega)).2
    · exact (hL _ (by omega)).2
  · unfold mv_L at hx
    unfold mv_S
    split
    · rename_i hlt
      rw [if_pos hlt] at hx
      exact (hs _ (by omega) _ hx).2
    · rename_i hlt
      rw [if_neg hlt] at hx
      exact (hs _ (by omega) _ hx).2
theorem xm_l {post : SX → Prop} {fc tl jl : Int32} {aS aL aO aT aJ : Nat → Int32} {r l : Nat} (h1 : 1 ≤ r) (hr : r < 5) (hl : aL r = nI l) (hl6 : l ≤ 6) (hp : ∀ bS, (∀ x, x < l → bS (6 * (r - 1) + x) = aS (6 * r + x)) → (∀ y, (y < 6 * (r - 1) ∨ 6 * r ≤ y) → bS y = aS y) → post (fc, tl, jl, bS, upd aL (r - 1) (nI l), aO, aT, aJ)) : ∀ d q a, q + d = l → (∀ x, x < q → a (6 * (r - 1) + x) = aS (6 * r + x)) → (∀ y, (y < 6 * (r - 1) ∨ 6 * (r - 1) + q ≤ y) → a y = aS y) → wX_moveDown_7 post (nI r) (nI (6 * r)) fc tl jl (d + 1) (nI (6 * r + q)) a aL aO aT aJ := by
  have ec : (nI r).toNatClampNeg = r := nI_clamp (by omega)
  have el : aL (nI r).toNatClampNeg = nI l := by rw [ec]; exact hl
  have e1 : nI r - 1 = nI (r - 1) := pk_sub (b := 1) h1
  have hv : vp_in (nI r) 5 := vp_in_nI hr (by omega)
  intro d
  induction d with
  | zero =>
    intro q a hq ha hb
    refine ⟨hv, br_t ?_ ⟨hv, pk_in (r - 1) 5 (by omega) e1, nm_e ?_⟩⟩
    · rw [el, nI_add]
      exact nI_le (by omega) (by omega)
    · rw [pk_cl _ e1, el]
      exact hp a (fun x hx => ha x (by omega)) (fun y hy => hb y (by omega))
  | succ d ih =>
    intro q a hq ha hb
    have e2 : nI (6 * r + q) - 6 = nI (6 * (r - 1) + q) := (pk_sub (b := 6) (by omega)).trans (congrArg nI (by omega))
    refine ⟨hv, br_f ?_ ⟨vp_in_nI (by omega) (by omega), pk_in (6 * (r - 1) + q) 30 (by omega) e2, nm_e (nm_r (nI_1 (6 * r + q)) (ih (q + 1) _ (by omega) ?_ ?_))⟩⟩
    · rw [el, nI_add]
      exact nI_ge (by omega) (by omega)
    · rw [pk_cl _ e2, nI_clamp (by omega)]
      intro x hx
      by_cases cx : x = q
      · subst cx
        rw [pk_us]
        exact hb _ (by omega)
      · rw [pk_un (by omega)]
        exact ha x (by omega)
    · rw [pk_cl _ e2, nI_clamp (by omega)]
      intro y hy
      rw [pk_un (by omega)]
      exact hb y (by omega)
theorem xm_down {post : SX → Prop} {fc tl jl : Int32} {aS aL aO aT aJ : Nat → Int32} {r l : Nat} (h1 : 1 ≤ r) (hr : r < 5) (hl : aL r = nI l) (hl6 : l ≤ 6) (hp : ∀ bS, (∀ x, x < l → bS (6 * (r - 1) + x) = aS (6 * r + x)) → (∀ y, (y < 6 * (r - 1) ∨ 6 * r ≤ y) → bS y = aS y) → post (fc, tl, jl, bS, upd aL (r - 1) (nI l), aO, aT, aJ)) : wpX_moveDown post (fc, tl, jl, aS, aL, aO, aT, aJ) (nI r) :=
  nm_r (nu_6 r) ⟨l + 1, xm_l h1 hr hl hl6 hp l 0 aS (by omega) (fun x hx => absurd hx (Nat.not_lt_zero x)) (fun _ _ => rfl)⟩
theorem xm_rem {post : Int32 → SX → Prop} {tl jl : Int32} {aO aT aJ : Nat → Int32} {c i : Nat} {L : Nat → Nat} {sy : Nat → Nat → Nat} (hc : c ≤ 5) (hi : i < c) (hL6 : ∀ j, j < c → L j ≤ 6) (hp : ∀ aS aL, mv_I c i c L sy aS aL → post 1 (nI (c - 1), tl, jl, aS, aL, aO, aT, aJ)) : ∀ d r aS aL, r + d = c → i < r → mv_I c i r L sy aS aL → wX_remove_14 post (d + 1) (nI r) (nI c) tl jl aS aL aO aT aJ := by
  intro d
  induction d with
  | zero =>
    intro r aS aL h hr hI
    have er : r = c := by omega
    subst er
    exact br_t (nI_le (Nat.le_refl _) (by omega)) (nm_r (pk_sub (b := 1) (by omega)) (hp aS aL hI))
  | succ d ih =>
    intro r aS aL h hr hI
    refine br_f (nI_ge (by omega) (by omega)) (xm_down (by omega) (by omega) (hI.2 r (Nat.le_refl _) (by omega)).1 (hL6 r (by omega)) (fun bS h1 h2 => nm_r (nI_1 r) (ih (r + 1) bS _ (by omega) (by omega) (mv_step hr (by omega) hL6 hI rfl h1 h2))))
theorem ym_38 {post : Int32 → SY → Prop} {J : Int32 → (Nat → Int32) → (Nat → Int32) → (Nat → Int32) → (Nat → Int32) → (Nat → Int32) → (Nat → Int32) → (Nat → Int32) → Prop} {fc : Int32} {aZ aS aE aN aD aJ aW : Nat → Int32} {j : Nat} (hj : j + 1 < 5) (hp : ∀ bS, (∀ x, x < 6 → bS (6 * j + x) = aS (6 * (j + 1) + x)) → (∀ y, (y < 6 * j ∨ 6 * (j + 1) ≤ y) → bS y = aS y) → J (nI (j + 1)) aZ bS aE aN aD aJ aW) : ∀ d q a, q + d = 6 → (∀ x, x < q → a (6 * j + x) = aS (6 * (j + 1) + x)) → (∀ y, (y < 6 * j ∨ 6 * j + q ≤ y) → a y = aS y) → wY_remove_38 post J (nI j) fc (d + 1) (nI q) aZ a aE aN aD aJ aW := by
  intro d
  induction d with
  | zero =>
    intro q a hq ha hb
    have eq : q = 6 := by omega
    subst eq
    exact br_t (nI_le (a := 6) (by omega) (by omega)) (nm_r (nI_1 j) (hp a ha (fun y hy => hb y (by omega))))
  | succ d ih =>
    intro q a hq ha hb
    have e1 : 6 * nI j + 6 + nI q = nI (6 * (j + 1) + q) := by
      rw [nu_6', show (6 : Int32) = nI 6 from rfl, nI_add, nI_add]
      exact congrArg nI (by omega)
    have e2 : 6 * nI j + nI q = nI (6 * j + q) := by rw [nu_6', nI_add]
    refine br_f (nI_ge (b := 6) (by omega) (by decide)) ⟨pk_in (6 * (j + 1) + q) 30 (by omega) e1, pk_in (6 * j + q) 30 (by omega) e2, nm_e (nm_r (nI_1 q) (ih (q + 1) _ (by omega) ?_ ?_))⟩
    · rw [pk_cl _ e1, pk_cl _ e2]
      intro x hx
      by_cases cx : x = q
      · subst cx
        rw [pk_us]
        exact hb _ (by omega)
      · rw [pk_un (by omega)]
        exact ha x (by omega)
    · rw [pk_cl _ e1, pk_cl _ e2]
      intro y hy
      rw [pk_un (by omega)]
      exact hb y (by omega)
theorem ym_rem {post : Int32 → SY → Prop} {aE aN aD aJ aW : Nat → Int32} {c i : Nat} {L : Nat → Nat} {sy : Nat → Nat → Nat} (hc : c ≤ 5) (hi : i < c) (hL6 : ∀ j, j < c → L j ≤ 6) (hp : ∀ aS aZ, mv_I c i c L sy aS aZ → post 1 (nI (c - 1), aZ, aS, aE, aN, aD, aJ, aW)) : ∀ d j aS aZ, j + 1 + d = c → i ≤ j → mv_I c i (j + 1) L sy aS aZ → wY_remove_12 post (nI c) (d + 1) (nI j) aZ aS aE aN aD aJ aW := by
  intro d
  induction d with
  | zero =>
    intro j aS aZ h hj hI
    have ej : j + 1 = c := by omega
    refine br_t ?_ (nm_r (pk_sub (b := 1) (by omega)) (hp aS aZ (ej ▸ hI)))
    rw [nI_1]
    exact nI_le (by omega) (by omega)
  | succ d ih =>
    intro j aS aZ h hj hI
    refine br_f ?_ ⟨pk_in (j + 1) 5 (by omega) (nI_1 j), vp_in_nI (by omega) (by omega), nm_e ⟨6 + 1, ym_38 (by omega) (fun bS h1 h2 => ih (j + 1) bS _ (by omega) (by omega) (mv_step (r := j + 1) (by omega) (by omega) hL6 hI ?_ ?_ ?_)) 6 0 aS rfl (fun x hx => absurd hx (Nat.not_lt_zero x)) (fun _ _ => rfl)⟩⟩
    · rw [nI_1]
      exact nI_ge (by omega) (by omega)
    · rw [pk_cl _ (nI_1 j), nI_clamp (by omega), (hI.2 (j + 1) (Nat.le_refl _) (by omega)).1]
      rfl
    · intro x hx
      have := hL6 (j + 1) (by omega)
      exact h1 x (by omega)
    · intro y hy
      exact h2 y (by omega)
theorem i_vc_remove {k : Nat} {u : SX} {v : SY} (I : i_Rel k u v) (hk : k + 3 ≤ 1536) (v1 : Int32) : wpX_remove (fun r u' => wpY_remove (fun r' v' => r' = r ∧ i_Rel (k + 3) u' v') v v1) u v1 := by
  obtain ⟨c, L, sy, tl, jl, aS, aL, aO, aT, aJ, aZ, bS, aE, aN, aD, bJ, aW, rfl, rfl, P, Q⟩ := rl_get I
  have hc := P.2.1
  rcases ix_2 v1 hc with hi | ⟨j, hj, rfl⟩
  · unfold wpX_remove
    dsimp only
    refine xr_no hi ?_
    refine br_t rfl ?_
    unfold wpY_remove
    dsimp only
    refine yr_no hi ?_
    exact br_t rfl ⟨rfl, rl_mk P Q⟩
  · have hL6 : ∀ j, j < c → L j ≤ 6 := fun j hj => (P.2.2.1 j hj).2
    unfold wpX_remove
    dsimp only
    refine xr_yes hc hj ?_
    refine br_f (by decide) (nm_r (nI_1 j) ⟨c - (j + 1) + 1, xm_rem hc hj hL6 (fun cS cL hI => ?_) (c - (j + 1)) (j + 1) aS aL (by omega) (by omega) (mv_0 hj P)⟩)
    unfold wpY_remove
    dsimp only
    refine yr_yes hc hj ?_
    exact br_f (by decide) ⟨c - (j + 1) + 1, ym_rem hc hj hL6 (fun dS dZ hI' => ⟨rfl, rl_mk (mv_end hj P hI) (mv_end hj Q hI')⟩) (c - (j + 1)) j bS aZ (by omega) (Nat.le_refl _) (mv_0 hj Q)⟩
end
section
/-! overlap and contains -/
theorem ys_same_l {post : Int32 → Prop} {fc : Int32} {aZ aS aE aN aD aJ aW : Nat → Int32} {i p j q k : Nat} (h1 : 6 * i + p + k ≤ 30) (h2 : 6 * j + q + k ≤ 30) (hy : (∀ x, x < k → aS (6 * i + p + x) = aS (6 * j + q + x)) → post 1) (hn : ¬ (∀ x, x < k → aS (6 * i + p + x) = aS (6 * j + q + x)) → post 0) : ∀ d x b, x + d = k → ((b = 0 ∧ ¬ ∀ y, y < k → aS (6 * i + p + y) = aS (6 * j + q + y)) ∨ (b = 1 ∧ ∀ y, y < x → aS (6 * i + p + y) = aS (6 * j + q + y))) → wY_same_6 post (nI i) (nI p) (nI j) (nI q) (nI k) fc aZ aS aE aN aD aJ aW (d + 1) b (nI x) := by
  intro d
  induction d with
  | zero =>
    intro x b h hb
    have ex : x = k := by omega
    subst ex
    refine br_t (nI_le (Nat.le_refl _) (by omega)) ?_
    rcases hb with ⟨rfl, hb⟩ | ⟨rfl, hb⟩
    · exact ⟨nb_0, hn hb⟩
    · exact ⟨nb_1, hy hb⟩
  | succ d ih =>
    intro x b h hb
    refine br_f (nI_ge (by omega) (by omega)) ?_
    rcases hb with ⟨rfl, hb⟩ | ⟨rfl, hb⟩
    · exact br_t rfl (nm_r (nI_1 x) (ih (x + 1) 0 (by omega) (Or.inl ⟨rfl, hb⟩)))
    · have e1 : 6 * nI i + nI p + nI x = nI (6 * i + p + x) := by rw [nu_6', nI_add, nI_add]
      have e2 : 6 * nI j + nI q + nI x = nI (6 * j + q + x) := by rw [nu_6', nI_add, nI_add]
      refine br_f (by decide) ⟨pk_in _ 30 (by omega) e1, pk_in _ 30 (by omega) e2, br_c (fun z => nm_r (nI_1 x) (ih (x + 1) 1 (by omega) (Or.inr ⟨rfl, lt_s hb ?_⟩))) (fun z => nm_r (nI_1 x) (ih (x + 1) 0 (by omega) (Or.inl ⟨rfl, fun w => ?_⟩)))⟩
      · rw [pk_cl _ e1, pk_cl _ e2] at z
        exact z
      · rw [pk_cl _ e1, pk_cl _ e2] at z
        exact z (w x (by omega))
theorem ys_same {post : Int32 → Prop} {fc x1 x2 x3 x4 x5 : Int32} {aZ aS aE aN aD aJ aW : Nat → Int32} (i p j q k : Nat) (h1 : 6 * i + p + k ≤ 30) (h2 : 6 * j + q + k ≤ 30) (hy : (∀ x, x < k → aS (6 * i + p + x) = aS (6 * j + q + x)) → post 1) (hn : ¬ (∀ x, x < k → aS (6 * i + p + x) = aS (6 * j + q + x)) → post 0) (e1 : x1 = nI i) (e2 : x2 = nI p) (e3 : x3 = nI j) (e4 : x4 = nI q) (e5 : x5 = nI k) : wpY_same post (fc, aZ, aS, aE, aN, aD, aJ, aW) x1 x2 x3 x4 x5 := by
  subst e1 e2 e3 e4 e5
  exact ⟨k + 1, ys_same_l h1 h2 hy hn k 0 1 (by omega) (Or.inr ⟨rfl, fun y hy => absurd hy (Nat.not_lt_zero y)⟩)⟩
theorem yo_l {post : Int32 → Prop} {fc : Int32} {aZ aS aE aN aD aJ aW : Nat → Int32} {i j n l : Nat} (hi : i < 5) (hj : j < 5) (hz : aZ i = nI n) (hn : n ≤ 6) (hl : l ≤ 6) (hy : ∀ k, k ≤ n → k ≤ l → tx_Ov aS aS (6 * i) n j k → (∀ q, k < q → q ≤ n → q ≤ l → ¬ tx_Ov aS aS (6 * i) n j q) → post (nI k)) : ∀ k, k ≤ n → k ≤ l → (∀ q, k < q → q ≤ n → q ≤ l → ¬ tx_Ov aS aS (6 * i) n j q) → wY_overlap_49 post (nI i) (nI j) fc aZ aS aE aN aD aJ aW (k + 1) (nI k) := by
  intro k
  induction k with
  | zero =>
    intro h1 h2 hq
    exact br_t (by decide) (hy 0 h1 h2 (fun x hx => absurd hx (Nat.not_lt_zero x)) hq)
  | succ k ih =>
    intro h1 h2 hq
    have e : 6 * i + (n - (k + 1)) = 6 * i + n - (k + 1) := by omega
    refine br_f (nI_nle (by omega) (by omega)) ⟨vp_in_nI hi (by omega), ?_⟩
    refine ys_same i (n - (k + 1)) j 0 (k + 1) (by omega) (by omega) (fun h => ?_) (fun h => ?_) rfl (by rw [nI_clamp (by omega), hz, pk_sub (by omega)]) rfl rfl rfl
    · rw [e] at h
      exact br_f (by decide) (hy (k + 1) h1 h2 h hq)
    · rw [e] at h
      refine br_t rfl (nm_r (pk_m1 k) (ih (by omega) (by omega) (fun q q1 q2 q3 => ?_)))
      by_cases c : q = k + 1
      · subst c; exact h
      · exact hq q (by omega) q2 q3
theorem yo_c {post : Int32 → Prop} {fc : Int32} {aZ aS aE aN aD aJ aW : Nat → Int32} {i j n l : Nat} (hi : i < 5) (hj : j < 5) (hz : aZ i = nI n) (hzj : aZ j = nI l) (hn : n ≤ 6) (hl : l ≤ 6) (hy : ∀ p, p + l ≤ n → tx_St aS aS (6 * i) j l p → post 1) (hno : (∀ b, b + l ≤ n → ¬ tx_St aS aS (6 * i) j l b) → post 0) : ∀ d p, p + d = n + 1 → (∀ b, b < p → ¬ tx_St aS aS (6 * i) j l b) → wY_contains_20 post (nI i) (nI j) fc aZ aS aE aN aD aJ aW (d + 1) (nI p) := by
  have ei : aZ (nI i).toNatClampNeg = nI n := by rw [nI_clamp (by omega)]; exact hz
  have ej : aZ (nI j).toNatClampNeg = nI l := by rw [nI_clamp (by omega)]; exact hzj
  have hvi : vp_in (nI i) 5 := vp_in_nI hi (by omega)
  have hvj : vp_in (nI j) 5 := vp_in_nI hj (by omega)
  intro d
  induction d with
  | zero =>
    intro p hp hb
    refine ⟨hvj, hvi, br_t ?_ (hno (fun b h => hb b (by omega)))⟩
    rw [ei, ej, nI_add]
    exact nI_lt (by omega) (by omega)
  | succ d ih =>
    intro p hp hb
    by_cases c : p + l ≤ n
    · refine ⟨hvj, hvi, br_f ?_ ⟨hvj, ?_⟩⟩
      · rw [ei, ej, nI_add]
        exact nI_nlt c (by omega)
      · refine ys_same i p j 0 l (by omega) (by omega) (fun h => ?_) (fun h => ?_) rfl rfl rfl rfl ej
        · exact br_f (by decide) (hy p c h)
        · exact br_t rfl (nm_r (nI_1 p) (ih (p + 1) (by omega) (lt_s hb h)))
    · refine ⟨hvj, hvi, br_t ?_ (hno (fun b h => hb b (by omega)))⟩
      rw [ei, ej, nI_add]
      exact nI_lt (by omega) (by omega)
theorem i_vc_overlap {k : Nat} {u : SX} {v : SY} (I : i_Rel k u v) (hk : k + 3 ≤ 1536) (v1 : Int32) (v2 : Int32) : wpX_overlap (fun r => wpY_overlap (fun r' => r' = r ∧ i_Rel (k + 3) u v) v v1 v2) u v1 v2 := by
  obtain ⟨c, L, sy, tl, jl, aS, aL, aO, aT, aJ, aZ, bS, aE, aN, aD, bJ, aW, rfl, rfl, P, Q⟩ := rl_get I
  have hc := P.2.1
  unfold wpX_overlap
  dsimp only
  rcases ix_2 v1 hc with hi | ⟨i, hi, rfl⟩
  · refine xr_no hi ?_
    refine br_t rfl ?_
    unfold wpY_overlap
    dsimp only
    refine yr_no hi ?_
    exact br_t rfl ⟨rfl, rl_mk P Q⟩
  · refine xr_yes hc hi ?_
    refine br_f (by decide) ?_
    rcases ix_2 v2 hc with hj | ⟨j, hj, rfl⟩
    · refine xr_no hj ?_
      refine br_t rfl ?_
      unfold wpY_overlap
      dsimp only
      refine yr_yes hc hi ?_
      refine br_f (by decide) ?_
      refine yr_no hj ?_
      exact br_t rfl ⟨rfl, rl_mk P Q⟩
    · obtain ⟨li1, li2⟩ := P.2.2.1 i hi
      obtain ⟨lj1, lj2⟩ := P.2.2.1 j hj
      obtain ⟨zi1, _⟩ := Q.2.2.1 i hi
      obtain ⟨zj1, _⟩ := Q.2.2.1 j hj
      have hvi : vp_in (nI i) 5 := vp_in_nI (by omega) (by omega)
      have hvj : vp_in (nI j) 5 := vp_in_nI (by omega) (by omega)
      have eli : aL (nI i).toNatClampNeg = nI (L i) := by rw [nI_clamp (by omega)]; exact li1
      have ezi : aZ (nI i).toNatClampNeg = nI (L i) := by rw [nI_clamp (by omega)]; exact zi1
      have ezj : aZ (nI j).toNatClampNeg = nI (L j) := by rw [nI_clamp (by omega)]; exact zj1
      refine xr_yes hc hj ?_
      refine br_f (by decide) ⟨hvi, ?_⟩
      refine xs_over_symbols (6 * i) (L i) j (L j) (by omega) lj1 lj2 (by omega) (fun m m1 m2 m3 m4 => ?_) (nu_6 i) eli rfl
      unfold wpY_overlap
      dsimp only
      refine yr_yes hc hi ?_
      refine br_f (by decide) ?_
      refine yr_yes hc hj ?_
      have fin : ∀ q, q ≤ L i → q ≤ L j → tx_Ov bS bS (6 * i) (L i) j q → (∀ b, q < b → b ≤ L i → b ≤ L j → ¬ tx_Ov bS bS (6 * i) (L i) j b) → nI q = nI m ∧ i_Rel (k + 3) (nI c, tl, jl, aS, aL, aO, aT, aJ) (nI c, aZ, bS, aE, aN, aD, bJ, aW) := by
        intro q q1 q2 q3 q4
        refine ⟨congrArg nI ?_, rl_mk P Q⟩
        have a3 := (tx_ov (f := sy i) (P.2.2.2 i hi) (P.2.2.2 j hj) m1 m2).mp m3
        have b3 := (tx_ov (f := sy i) (Q.2.2.2 i hi) (Q.2.2.2 j hj) q1 q2).mp q3
        by_cases c1 : q < m
        · exact absurd ((tx_ov (f := sy i) (Q.2.2.2 i hi) (Q.2.2.2 j hj) m1 m2).mpr a3) (q4 m c1 m1 m2)
        · by_cases c2 : m < q
          · exact absurd ((tx_ov (f := sy i) (P.2.2.2 i hi) (P.2.2.2 j hj) q1 q2).mpr b3) (m4 q c2 q1 q2)
          · omega
      refine br_f (by decide) ⟨hvi, hvj, pk_le (L j) (L i) (fun h => ⟨hvj, nm_r ezj ⟨L j + 1, ?_⟩⟩) (fun h => ⟨hvi, nm_r ezi ⟨L i + 1, ?_⟩⟩) ezj ezi⟩
      · exact yo_l (by omega) (by omega) zi1 li2 lj2 fin (L j) h (Nat.le_refl _) (fun q q1 q2 q3 => by omega)
      · exact yo_l (by omega) (by omega) zi1 li2 lj2 fin (L i) (Nat.le_refl _) (by omega) (fun q q1 q2 q3 => by omega)
theorem i_vc_contains {k : Nat} {u : SX} {v : SY} (I : i_Rel k u v) (hk : k + 3 ≤ 1536) (v1 : Int32) (v2 : Int32) : wpX_contains (fun r => wpY_contains (fun r' => r' = r ∧ i_Rel (k + 3) u v) v v1 v2) u v1 v2 := by
  obtain ⟨c, L, sy, tl, jl, aS, aL, aO, aT, aJ, aZ, bS, aE, aN, aD, bJ, aW, rfl, rfl, P, Q⟩ := rl_get I
  have hc := P.2.1
  unfold wpX_contains
  dsimp only
  rcases ix_2 v1 hc with hi | ⟨i, hi, rfl⟩
  · refine xr_no hi ?_
    refine br_t rfl ?_
    unfold wpY_contains
    dsimp only
    refine yr_no hi ?_
    exact br_t rfl ⟨rfl, rl_mk P Q⟩
  · refine xr_yes hc hi ?_
    refine br_f (by decide) ?_
    rcases ix_2 v2 hc with hj | ⟨j, hj, rfl⟩
    · refine xr_no hj ?_
      refine br_t rfl ?_
      unfold wpY_contains
      dsimp only
      refine yr_yes hc hi ?_
      refine br_f (by decide) ?_
      refine yr_no hj ?_
      exact br_t rfl ⟨rfl, rl_mk P Q⟩
    · obtain ⟨li1, li2⟩ := P.2.2.1 i hi
      obtain ⟨lj1, lj2⟩ := P.2.2.1 j hj
      obtain ⟨zi1, _⟩ := Q.2.2.1 i hi
      obtain ⟨zj1, _⟩ := Q.2.2.1 j hj
      have hvi : vp_in (nI i) 5 := vp_in_nI (by omega) (by omega)
      have eli : aL (nI i).toNatClampNeg = nI (L i) := by rw [nI_clamp (by omega)]; exact li1
      have key : ∀ p, p + L j ≤ L i → (tx_St aS aS (6 * i) j (L j) p ↔ tx_St bS bS (6 * i) j (L j) p) := fun p hp => (tx_at (f := sy i) (P.2.2.2 i hi) (P.2.2.2 j hj) hp).trans (tx_at (f := sy i) (Q.2.2.2 i hi) (Q.2.2.2 j hj) hp).symm
      refine xr_yes hc hj ?_
      refine br_f (by decide) ⟨hvi, ?_⟩
      refine xs_place_symbols (6 * i) (L i) j (L j) (by omega) lj1 lj2 (by omega) (fun m m1 m2 m3 => ?_) (fun hno => ?_) (nu_6 i) eli rfl
      · refine br_f (fun e => nd_m1 (n := m) (by omega) e.symm) ?_
        unfold wpY_contains
        dsimp only
        refine yr_yes hc hi ?_
        refine br_f (by decide) ?_
        refine yr_yes hc hj ?_
        exact br_f (by decide) ⟨L i + 1 + 1, yo_c (by omega) (by omega) zi1 zj1 li2 lj2 (fun _ _ _ => ⟨rfl, rl_mk P Q⟩) (fun hno => absurd ((key m m1).mp m2) (hno m m1)) (L i + 1) 0 (by omega) (fun b hb => absurd hb (Nat.not_lt_zero b))⟩
      · refine br_t rfl ?_
        unfold wpY_contains
        dsimp only
        refine yr_yes hc hi ?_
        refine br_f (by decide) ?_
        refine yr_yes hc hj ?_
        exact br_f (by decide) ⟨L i + 1 + 1, yo_c (by omega) (by omega) zi1 zj1 li2 lj2 (fun m m1 m2 => absurd ((key m m1).mpr m2) (hno m m1)) (fun _ => ⟨rfl, rl_mk P Q⟩) (L i + 1) 0 (by omega) (fun b hb => absurd hb (Nat.not_lt_zero b))⟩
end
section
/-! shortest, symbolAt, shortestWithout, pair -/
theorem bi_31 : ∀ r, r < 5 → (((31 : Int32) >>> (nI r &&& 31)) &&& 1) = 1 := by decide +kernel
theorem bi_wx : ∀ i, i < 5 → ∀ r, r < 5 → (((((31 : Int32) &&& (((1 : Int32) <<< (nI i &&& 31)) ^^^ (-1))) >>> (nI r &&& 31)) &&& 1) = 1 ↔ r ≠ i) := by decide +kernel
theorem bi_wy : ∀ c, c < 6 → ∀ i, i < 5 → ∀ M, M < 32 → ((nI M &&& ((((1 : Int32) <<< (nI c &&& 31)) - 1) &&& (((1 : Int32) <<< (nI i &&& 31)) ^^^ (-1)))) = ((((1 : Int32) <<< (nI c &&& 31)) - 1) &&& (((1 : Int32) <<< (nI i &&& 31)) ^^^ (-1))) ↔ ∀ j, j < c → (j = i ∨ M.testBit j = true)) := by decide +kernel
theorem bi_px : ∀ i, i < 5 → ∀ j, j < 5 → ∀ r, r < 5 → ((((((1 : Int32) <<< (nI i &&& 31)) ||| ((1 : Int32) <<< (nI j &&& 31))) >>> (nI r &&& 31)) &&& 1) = 1 ↔ r = i ∨ r = j) := by decide +kernel
theorem bi_py : ∀ i, i < 5 → ∀ j, j < 5 → ∀ M, M < 32 → ((nI M &&& (((1 : Int32) <<< (nI i &&& 31)) ||| ((1 : Int32) <<< (nI j &&& 31)))) = (((1 : Int32) <<< (nI i &&& 31)) ||| ((1 : Int32) <<< (nI j &&& 31))) ↔ M.testBit i = true ∧ M.testBit j = true) := by decide +kernel
theorem xf_all {post : SX → Prop} {c : Nat} {L : Nat → Nat} {sy : Nat → Nat → Nat} {tl jl : Int32} {aS aL aO aT aJ : Nat → Int32} (P : pc_P c L sy (nI c) aS aL) (hp : ∀ tl aO aT aJ S m, m ≤ 30 → st_First L sy (fun j => j < c) S m → (∀ x, x < m → aJ x = nI (S x) ∧ S x < 4) → post (nI c, tl, nI m, aS, aL, aO, aT, aJ)) : wpX_findJoin post (nI c, tl, jl, aS, aL, aO, aT, aJ) 31 :=
  xf_find (W := fun j => j < c) P (fun j hj => hj) (fun r hr => ⟨fun _ => hr, fun _ => bi_31 r (by have := P.2.1; omega)⟩) hp
theorem i_vc_shortest {k : Nat} {u : SX} {v : SY} (I : i_Rel k u v) (hk : k + 3 ≤ 1536) : wpX_shortest (fun r u' => wpY_shortest (fun r' v' => r' = r ∧ i_Rel (k + 3) u' v') v) u := by
  obtain ⟨c, L, sy, tl, jl, aS, aL, aO, aT, aJ, aZ, bS, aE, aN, aD, bJ, aW, rfl, rfl, P, Q⟩ := rl_get I
  have hc := P.2.1
  unfold wpX_shortest
  dsimp only
  refine xf_all P (fun tl aO aT aJ S m m1 m2 m3 => ?_)
  unfold wpY_shortest
  dsimp only
  exact yv_solve (W := fun j => j < c) Q (fun j hj => hj) (fun M hM => bi_full c (by omega) M hM) (fun _ _ _ _ _ n _ _ _ _ h => ⟨congrArg nI (yv_len_first m2 h), rl_mk P Q⟩)
theorem i_vc_symbolAt {k : Nat} {u : SX} {v : SY} (I : i_Rel k u v) (hk : k + 3 ≤ 1536) (v1 : Int32) : wpX_symbolAt (fun r u' => wpY_symbolAt (fun r' v' => r' = r ∧ i_Rel (k + 3) u' v') v v1) u v1 := by
  obtain ⟨c, L, sy, tl, jl, aS, aL, aO, aT, aJ, aZ, bS, aE, aN, aD, bJ, aW, rfl, rfl, P, Q⟩ := rl_get I
  have hc := P.2.1
  unfold wpX_symbolAt
  dsimp only
  refine xf_all P (fun tl aO aT aJ S m m1 m2 m3 => ?_)
  dsimp only
  unfold wpY_symbolAt
  dsimp only
  rcases pk_ix v1 (n := m) (by omega) with h | h | ⟨x, hx, rfl⟩
  · exact br_t h (yw_write Q (fun _ _ _ _ _ g n n1 n2 n3 => br_t h ⟨rfl, rl_mk P Q⟩))
  · have h0 : ¬ v1 < 0 := Int32.not_lt.mpr (Int32.le_trans (nI_pos' (by omega)) h)
    refine br_f h0 (br_t h (yw_write Q (fun _ _ _ _ _ g n n1 n2 n3 => ?_)))
    obtain ⟨e, _⟩ := st_first_unique m2 n2
    subst e
    exact br_f h0 (br_f (Int32.not_lt.mpr h) ⟨rfl, rl_mk P Q⟩)
  · have h0 : ¬ nI x < 0 := nI_pos (by omega)
    refine br_f h0 (br_f (nI_ge hx (by omega)) ⟨vp_in_nI (by omega) (by omega), yw_write Q (fun _ _ _ cJ _ g n n1 n2 n3 => ?_)⟩)
    obtain ⟨e, he⟩ := st_first_unique m2 n2
    subst e
    refine br_f h0 (br_t (nI_lt hx (by omega)) ⟨vp_in_nI (by omega) (by omega), ?_, rl_mk P Q⟩)
    show cJ (nI x).toNatClampNeg = aJ (nI x).toNatClampNeg
    rw [nI_clamp (by omega), (n3 x hx).1, (m3 x hx).1, he x hx]
theorem i_vc_shortestWithout {k : Nat} {u : SX} {v : SY} (I : i_Rel k u v) (hk : k + 3 ≤ 1536) (v1 : Int32) : wpX_shortestWithout (fun r u' => wpY_shortestWithout (fun r' v' => r' = r ∧ i_Rel (k + 3) u' v') v v1) u v1 := by
  obtain ⟨c, L, sy, tl, jl, aS, aL, aO, aT, aJ, aZ, bS, aE, aN, aD, bJ, aW, rfl, rfl, P, Q⟩ := rl_get I
  have hc := P.2.1
  unfold wpX_shortestWithout
  dsimp only
  rcases ix_2 v1 hc with hi | ⟨i, hi, rfl⟩
  · refine xr_no hi ?_
    refine br_t rfl ?_
    unfold wpY_shortestWithout
    dsimp only
    refine yr_no hi ?_
    exact br_t rfl ⟨rfl, rl_mk P Q⟩
  · refine xr_yes hc hi ?_
    refine br_f (by decide) (xf_find (W := fun j => j < c ∧ j ≠ i) P (fun j hj => hj.1) (fun r hr => ?_) (fun tl aO aT aJ S m m1 m2 m3 => ?_))
    · rw [bi_wx i (by omega) r (by omega)]
      exact ⟨fun h => ⟨hr, h⟩, fun h => h.2⟩
    · unfold wpY_shortestWithout
      dsimp only
      refine yr_yes hc hi ?_
      refine br_f (by decide) (yv_solve (W := fun j => j < c ∧ j ≠ i) Q (fun j hj => hj.1) (fun M hM => ?_) (fun _ _ _ _ _ n _ _ _ _ h => ⟨congrArg nI (yv_len_first m2 h), rl_mk P Q⟩))
      rw [bi_wy c (by omega) i (by omega) M hM]
      refine ⟨fun h j hj => (h j hj.1).resolve_left hj.2, fun h j h1 => ?_⟩
      by_cases c1 : j = i
      · exact Or.inl c1
      · exact Or.inr (h j ⟨h1, c1⟩)
theorem i_vc_pair {k : Nat} {u : SX} {v : SY} (I : i_Rel k u v) (hk : k + 3 ≤ 1536) (v1 : Int32) (v2 : Int32) : wpX_pair (fun r u' => wpY_pair (fun r' v' => r' = r ∧ i_Rel (k + 3) u' v') v v1 v2) u v1 v2 := by
  obtain ⟨c, L, sy, tl, jl, aS, aL, aO, aT, aJ, aZ, bS, aE, aN, aD, bJ, aW, rfl, rfl, P, Q⟩ := rl_get I
  have hc := P.2.1
  unfold wpX_pair
  dsimp only
  rcases ix_2 v1 hc with hi | ⟨i, hi, rfl⟩
  · refine xr_no hi ?_
    refine br_t rfl ?_
    unfold wpY_pair
    dsimp only
    refine yr_no hi ?_
    exact br_t rfl ⟨rfl, rl_mk P Q⟩
  · refine xr_yes hc hi ?_
    refine br_f (by decide) ?_
    rcases ix_2 v2 hc with hj | ⟨j, hj, rfl⟩
    · refine xr_no hj ?_
      refine br_t rfl ?_
      unfold wpY_pair
      dsimp only
      refine yr_yes hc hi ?_
      refine br_f (by decide) ?_
      refine yr_no hj ?_
      exact br_t rfl ⟨rfl, rl_mk P Q⟩
    · have hWc : ∀ r, r = i ∨ r = j → r < c := by
        intro r hr
        omega
      refine xr_yes hc hj ?_
      refine br_f (by decide) (xf_find (W := fun r => r = i ∨ r = j) P hWc (fun r hr => bi_px i (by omega) j (by omega) r (by omega)) (fun tl aO aT aJ S m m1 m2 m3 => ?_))
      unfold wpY_pair
      dsimp only
      refine yr_yes hc hi ?_
      refine br_f (by decide) ?_
      refine yr_yes hc hj ?_
      refine br_f (by decide) (yv_solve (W := fun r => r = i ∨ r = j) Q hWc (fun M hM => ?_) (fun _ _ _ _ _ n _ _ _ _ h => ⟨congrArg nI (yv_len_first m2 h), rl_mk P Q⟩))
      rw [bi_py i (by omega) j (by omega) M hM]
      constructor
      · rintro ⟨a, b⟩ r (rfl | rfl)
        · exact a
        · exact b
      · intro h
        exact ⟨h i (Or.inl rfl), h j (Or.inr rfl)⟩
end
section
/-! place and hasReverse -/
theorem yt_37 {post : Int32 → Prop} {J : Int32 → Int32 → Prop} {fc x3 z0 b : Int32} {aZ aS aE aN aD aJ aW : Nat → Int32} {i p x z : Nat} (hp : p + x < 31) (hz : 6 * i + z < 30) (hb : b = 0 ∨ b = 1) (h0 : b = 0 → J 0 (nI (x + 1))) (h1 : b = 1 → aJ (p + x) = aS (6 * i + z) → J 1 (nI (x + 1))) (h2 : b = 1 → ¬ aJ (p + x) = aS (6 * i + z) → J 0 (nI (x + 1))) (ez : z0 = nI z) : wY_stands_37 post J (nI i) (nI p) x3 b (nI x) z0 fc aZ aS aE aN aD aJ aW := by
  subst ez
  rcases hb with rfl | rfl
  · exact br_t rfl (nm_r (nI_1 x) (h0 rfl))
  · have e1 : nI p + nI x = nI (p + x) := nI_add p x
    have e2 : 6 * nI i + nI z = nI (6 * i + z) := by rw [nu_6', nI_add]
    refine br_f (by decide) ⟨pk_in _ 31 hp e1, pk_in _ 30 hz e2, br_c (fun q => nm_r (nI_1 x) (h1 rfl ?_)) (fun q => nm_r (nI_1 x) (h2 rfl ?_))⟩
    · rw [pk_cl _ e1, pk_cl _ e2] at q
      exact q
    · rw [pk_cl _ e1, pk_cl _ e2] at q
      exact q
theorem yt_l {post : Int32 → Prop} {fc x3 : Int32} {aZ aS aE aN aD aJ aW : Nat → Int32} {i p l : Nat} {tf : Nat → Nat} (hi : i < 5) (hl : aZ i = nI l) (hl6 : l ≤ 6) (hp : p + l ≤ 30) (ht : (x3 = 0 ∧ ∀ x, x < l → tf x = x) ∨ (x3 = 1 ∧ ∀ x, x < l → tf x = l - 1 - x)) (hy : (∀ x, x < l → aJ (p + x) = aS (6 * i + tf x)) → post 1) (hn : ¬ (∀ x, x < l → aJ (p + x) = aS (6 * i + tf x)) → post 0) : ∀ d x b, x + d = l → ((b = 0 ∧ ¬ ∀ y, y < l → aJ (p + y) = aS (6 * i + tf y)) ∨ (b = 1 ∧ ∀ y, y < x → aJ (p + y) = aS (6 * i + tf y))) → wY_stands_6 post (nI i) (nI p) x3 fc aZ aS aE aN aD aJ aW (d + 1) b (nI x) := by
  have ec : aZ (nI i).toNatClampNeg = nI l := by rw [nI_clamp (by omega)]; exact hl
  have hv : vp_in (nI i) 5 := vp_in_nI hi (by omega)
  intro d
  induction d with
  | zero =>
    intro x b h hb
    have ex : x = l := by omega
    subst ex
    refine ⟨hv, br_t (by rw [ec]; exact nI_le (Nat.le_refl _) (by omega)) ?_⟩
    rcases hb with ⟨rfl, hb⟩ | ⟨rfl, hb⟩
    · exact ⟨nb_0, hn hb⟩
    · exact ⟨nb_1, hy hb⟩
  | succ d ih =>
    intro x b h hb
    have hb' : b = 0 ∨ b = 1 := by
      rcases hb with ⟨e, _⟩ | ⟨e, _⟩
      · exact Or.inl e
      · exact Or.inr e
    have k0 : b = 0 → wY_stands_6 post (nI i) (nI p) x3 fc aZ aS aE aN aD aJ aW (d + 1) 0 (nI (x + 1)) := by
      intro e
      rcases hb with ⟨_, hb⟩ | ⟨e', _⟩
      · exact ih (x + 1) 0 (by omega) (Or.inl ⟨rfl, hb⟩)
      · rw [e] at e'
        exact absurd e' (by decide)
    have k1 : b = 1 → aJ (p + x) = aS (6 * i + tf x) → wY_stands_6 post (nI i) (nI p) x3 fc aZ aS aE aN aD aJ aW (d + 1) 1 (nI (x + 1)) := by
      intro e q
      rcases hb with ⟨e', _⟩ | ⟨_, hb⟩
      · rw [e] at e'
        exact absurd e' (by decide)
      · exact ih (x + 1) 1 (by omega) (Or.inr ⟨rfl, lt_s hb q⟩)
    have k2 : b = 1 → ¬ aJ (p + x) = aS (6 * i + tf x) → wY_stands_6 post (nI i) (nI p) x3 fc aZ aS aE aN aD aJ aW (d + 1) 0 (nI (x + 1)) := fun _ q => ih (x + 1) 0 (by omega) (Or.inl ⟨rfl, fun w => q (w x (by omega))⟩)
    refine ⟨hv, br_f (by rw [ec]; exact nI_ge (by omega) (by omega)) ?_⟩
    rcases ht with ⟨e3, ht⟩ | ⟨e3, ht⟩
    · have et := ht x (by omega)
      exact br_t e3 (yt_37 (z := tf x) (by omega) (by omega) hb' k0 k1 k2 (by rw [et]))
    · have et := ht x (by omega)
      refine br_f (by rw [e3]; decide) ⟨hv, yt_37 (z := tf x) (by omega) (by omega) hb' k0 k1 k2 ?_⟩
      rw [ec, show (1 : Int32) = nI 1 from rfl, pk_sub (by omega), pk_sub (by omega), et]
theorem yt_stands {post : Int32 → Prop} {fc x3 : Int32} {aZ aS aE aN aD aJ aW : Nat → Int32} {i p l : Nat} (tf : Nat → Nat) (hi : i < 5) (hl : aZ i = nI l) (hl6 : l ≤ 6) (hp : p + l ≤ 30) (ht : (x3 = 0 ∧ ∀ x, x < l → tf x = x) ∨ (x3 = 1 ∧ ∀ x, x < l → tf x = l - 1 - x)) (hy : (∀ x, x < l → aJ (p + x) = aS (6 * i + tf x)) → post 1) (hn : ¬ (∀ x, x < l → aJ (p + x) = aS (6 * i + tf x)) → post 0) : wpY_stands post (fc, aZ, aS, aE, aN, aD, aJ, aW) (nI i) (nI p) x3 :=
  ⟨l + 1, yt_l hi hl hl6 hp ht hy hn l 0 1 (by omega) (Or.inr ⟨rfl, fun y hy => absurd hy (Nat.not_lt_zero y)⟩)⟩
theorem yp_l {post : Int32 → SY → Prop} {aZ aS aE aN aD aJ aW : Nat → Int32} {c i n l : Nat} (hc : c ≤ 5) (hi : i < c) (hl : aZ i = nI l) (hl6 : l ≤ 6) (hn : n ≤ 30) (hy : ∀ p, p + l ≤ n → (∀ x, x < l → aJ (p + x) = aS (6 * i + x)) → (∀ b, b < p → ¬ ∀ x, x < l → aJ (b + x) = aS (6 * i + x)) → post (nI p) (nI c, aZ, aS, aE, aN, aD, aJ, aW)) (hno : (∀ b, b + l ≤ n → ¬ ∀ x, x < l → aJ (b + x) = aS (6 * i + x)) → post (-1) (nI c, aZ, aS, aE, aN, aD, aJ, aW)) : ∀ d p, p + d = n + 1 → (∀ b, b < p → ¬ ∀ x, x < l → aJ (b + x) = aS (6 * i + x)) → wY_place_7 post (nI i) (nI n) (nI c) aZ aS aE aN aD aJ aW (d + 1) (nI p) := by
  have ec : aZ (nI i).toNatClampNeg = nI l := by rw [nI_clamp (by omega)]; exact hl
  have hv : vp_in (nI i) 5 := vp_in_nI (by omega) (by omega)
  intro d
  induction d with
  | zero =>
    intro p hp hb
    rw [wY_place_7]
    refine yr_yes hc hi ?_
    refine br_f (by decide) ⟨hv, br_t ?_ (hno (fun b h => hb b (by omega)))⟩
    rw [ec, nI_add]
    exact nI_lt (by omega) (by omega)
  | succ d ih =>
    intro p hp hb
    rw [wY_place_7]
    refine yr_yes hc hi ?_
    by_cases cp : p + l ≤ n
    · refine br_f (by decide) ⟨hv, br_f ?_ (yt_stands (fun x => x) (by omega) hl hl6 (by omega) (Or.inl ⟨rfl, fun _ _ => rfl⟩) (fun h => br_f (by decide) (hy p cp h hb)) (fun h => br_t rfl (nm_r (nI_1 p) (ih (p + 1) (by omega) (lt_s hb h)))))⟩
      rw [ec, nI_add]
      exact nI_nlt cp (by omega)
    · refine br_f (by decide) ⟨hv, br_t ?_ (hno (fun b h => hb b (by omega)))⟩
      rw [ec, nI_add]
      exact nI_lt (by omega) (by omega)
theorem yp_no {post : Int32 → SY → Prop} {aZ aS aE aN aD aJ aW : Nat → Int32} {c : Nat} {i x2 x3 : Int32} (hi : i < 0 ∨ nI c ≤ i) (h : post (-1) (nI c, aZ, aS, aE, aN, aD, aJ, aW)) : wY_place_7 post i x2 (nI c) aZ aS aE aN aD aJ aW (0 + 1) x3 := by
  rw [wY_place_7]
  refine yr_no hi ?_
  exact br_t rfl h
theorem tr_eq {aJ aS : Nat → Int32} {S : Nat → Nat} {sy : Nat → Nat → Nat} {m i l : Nat} (hJ : ∀ x, x < m → aJ x = nI (S x) ∧ S x < 4) (hs : ∀ x, x < l → aS (6 * i + x) = nI (sy i x) ∧ sy i x < 4) (tf : Nat → Nat) (ht : ∀ x, x < l → tf x < l) {p : Nat} (hp : p + l ≤ m) : (∀ x, x < l → aJ (p + x) = aS (6 * i + tf x)) ↔ ∀ x, x < l → S (p + x) = sy i (tf x) := by
  constructor
  · intro h x hx
    have := h x hx
    obtain ⟨a1, a2⟩ := hJ (p + x) (by omega)
    obtain ⟨b1, b2⟩ := hs (tf x) (ht x hx)
    rw [a1, b1, nI_eq (by omega) (by omega)] at this
    exact this
  · intro h x hx
    rw [(hJ (p + x) (by omega)).1, (hs (tf x) (ht x hx)).1, h x hx]
theorem i_vc_place {k : Nat} {u : SX} {v : SY} (I : i_Rel k u v) (hk : k + 3 ≤ 1536) (v1 : Int32) : wpX_place (fun r u' => wpY_place (fun r' v' => r' = r ∧ i_Rel (k + 3) u' v') v v1) u v1 := by
  obtain ⟨c, L, sy, tl, jl, aS, aL, aO, aT, aJ, aZ, bS, aE, aN, aD, bJ, aW, rfl, rfl, P, Q⟩ := rl_get I
  have hc := P.2.1
  unfold wpX_place
  dsimp only
  rcases ix_2 v1 hc with hi | ⟨i, hi, rfl⟩
  · refine xr_no hi ?_
    refine br_t rfl ?_
    unfold wpY_place
    dsimp only
    exact yw_write Q (fun _ _ _ _ _ g n n1 n2 n3 => ⟨0 + 1, yp_no hi ⟨rfl, rl_mk P Q⟩⟩)
  · obtain ⟨l1, l2⟩ := P.2.2.1 i hi
    obtain ⟨z1, _⟩ := Q.2.2.1 i hi
    refine xr_yes hc hi ?_
    refine br_f (by decide) (xf_all P (fun tl aO aT aJ S m m1 m2 m3 => ?_))
    dsimp only
    have key : ∀ p, p + L i ≤ m → (tx_St aJ aS 0 i (L i) p ↔ ∀ x, x < L i → S (p + x) = sy i x) := by
      intro p hp
      unfold tx_St
      rw [Nat.zero_add]
      exact tr_eq m3 (P.2.2.2 i hi) (fun x => x) (fun _ h => h) hp
    have keyY : ∀ (cJ : Nat → Int32) (g : Nat → Nat), (∀ x, x < m → S x = g x) → (∀ x, x < m → cJ x = nI (g x) ∧ g x < 4) → ∀ p, p + L i ≤ m → ((∀ x, x < L i → cJ (p + x) = bS (6 * i + x)) ↔ ∀ x, x < L i → S (p + x) = sy i x) := by
      intro cJ g hg hJ p hp
      exact tr_eq (fun x hx => by rw [hg x hx]; exact hJ x hx) (Q.2.2.2 i hi) (fun x => x) (fun _ h => h) hp
    refine xs_place_join 0 m i (L i) (by omega) l1 l2 (by omega) (fun p p1 p2 p3 => ?_) (fun hno => ?_) rfl rfl rfl
    · unfold wpY_place
      dsimp only
      refine yw_write Q (fun _ _ _ cJ _ g n n1 n2 n3 => ?_)
      obtain ⟨e, he⟩ := st_first_unique m2 n2
      subst e
      have kY := keyY cJ g he n3
      refine ⟨m + 1 + 1, yp_l hc hi z1 l2 m1 (fun q q1 q2 q3 => ⟨congrArg nI ?_, rl_mk P Q⟩) (fun hno => absurd ((kY p p1).mpr ((key p p1).mp p2)) (hno p p1)) (m + 1) 0 (by omega) (fun b hb => absurd hb (Nat.not_lt_zero b))⟩
      by_cases c1 : p < q
      · exact absurd ((kY p p1).mpr ((key p p1).mp p2)) (q3 p c1)
      · by_cases c2 : q < p
        · exact absurd ((key q q1).mpr ((kY q q1).mp q2)) (p3 q c2)
        · omega
    · unfold wpY_place
      dsimp only
      refine yw_write Q (fun _ _ _ cJ _ g n n1 n2 n3 => ?_)
      obtain ⟨e, he⟩ := st_first_unique m2 n2
      subst e
      have kY := keyY cJ g he n3
      exact ⟨m + 1 + 1, yp_l hc hi z1 l2 m1 (fun q q1 q2 q3 => absurd ((key q q1).mpr ((kY q q1).mp q2)) (hno q q1)) (fun _ => ⟨rfl, rl_mk P Q⟩) (m + 1) 0 (by omega) (fun b hb => absurd hb (Nat.not_lt_zero b))⟩
theorem xv_17 {post : Int32 → Prop} {fc tl jl x3 : Int32} {aS aL aO aT aJ : Nat → Int32} {p i l : Nat} (hi : i < 5) (hl : aL i = nI l) (hl6 : l ≤ 6) (hp : p + l ≤ 30) (h3 : 0 < l → x3 = nI (6 * i + (l - 1))) (hy : (∀ x, x < l → aJ (p + x) = aS (6 * i + (l - 1 - x))) → post 1) (hn : ¬ (∀ x, x < l → aJ (p + x) = aS (6 * i + (l - 1 - x))) → post 0) : ∀ d x, x + d = l → (∀ y, y < x → aJ (p + y) = aS (6 * i + (l - 1 - y))) → wX_reverseStandsAt_17 post (nI p) (nI i) x3 fc tl jl aS aL aO aT aJ (d + 1) (nI x) := by
  have ec : aL (nI i).toNatClampNeg = nI l := by rw [nI_clamp (by omega)]; exact hl
  have hv : vp_in (nI i) 5 := vp_in_nI hi (by omega)
  intro d
  induction d with
  | zero =>
    intro x h hb
    have ex : x = l := by omega
    subst ex
    exact ⟨hv, br_t (by rw [ec]; exact nI_le (Nat.le_refl _) (by omega)) (hy hb)⟩
  | succ d ih =>
    intro x h hb
    have e1 : nI p + nI x = nI (p + x) := nI_add p x
    have e2 : x3 - nI x = nI (6 * i + (l - 1 - x)) := by
      rw [h3 (by omega), pk_sub (by omega)]
      exact congrArg nI (by omega)
    refine ⟨hv, br_f (by rw [ec]; exact nI_ge (by omega) (by omega)) ⟨pk_in _ 30 (by omega) e1, pk_in _ 30 (by omega) e2, br_c (fun q => nm_r (nI_1 x) (ih (x + 1) (by omega) (lt_s hb ?_))) (fun q => hn (fun w => ?_))⟩⟩
    · rw [pk_cl _ e1, pk_cl _ e2] at q
      exact q
    · rw [pk_cl _ e1, pk_cl _ e2] at q
      exact q (w x (by omega))
theorem xv_rev {post : Int32 → Prop} {fc tl jl : Int32} {aS aL aO aT aJ : Nat → Int32} {p i l : Nat} (hi : i < 5) (hl : aL i = nI l) (hl6 : l ≤ 6) (hp : p + l ≤ 30) (hy : (∀ x, x < l → aJ (p + x) = aS (6 * i + (l - 1 - x))) → post 1) (hn : ¬ (∀ x, x < l → aJ (p + x) = aS (6 * i + (l - 1 - x))) → post 0) : wpX_reverseStandsAt post (fc, tl, jl, aS, aL, aO, aT, aJ) (nI p) (nI i) := by
  have ec : aL (nI i).toNatClampNeg = nI l := by rw [nI_clamp (by omega)]; exact hl
  refine ⟨vp_in_nI hi (by omega), nm_e ⟨l + 1, xv_17 hi hl hl6 hp (fun h0 => ?_) hy hn l 0 (by omega) (fun y hy => absurd hy (Nat.not_lt_zero y))⟩⟩
  rw [ec, nu_6, nI_add, show (1 : Int32) = nI 1 from rfl, pk_sub (by omega)]
  exact congrArg nI (by omega)
theorem xv_18 {post : Int32 → SX → Prop} {fc tl : Int32} {aS aL aO aT aJ : Nat → Int32} {m i l : Nat} (hi : i < 5) (hl : aL i = nI l) (hl6 : l ≤ 6) (hm : m ≤ 30) (hy : ∀ p, p + l ≤ m → (∀ x, x < l → aJ (p + x) = aS (6 * i + (l - 1 - x))) → post 1 (fc, tl, nI m, aS, aL, aO, aT, aJ)) (hno : (∀ b, b + l ≤ m → ¬ ∀ x, x < l → aJ (b + x) = aS (6 * i + (l - 1 - x))) → post 0 (fc, tl, nI m, aS, aL, aO, aT, aJ)) : ∀ d p, p + d = m + 1 → (∀ b, b < p → ¬ ∀ x, x < l → aJ (b + x) = aS (6 * i + (l - 1 - x))) → wX_hasReverse_18 post (nI i) fc tl (nI m) aS aL aO aT aJ (d + 1) (nI p) := by
  have ec : aL (nI i).toNatClampNeg = nI l := by rw [nI_clamp (by omega)]; exact hl
  have hv : vp_in (nI i) 5 := vp_in_nI hi (by omega)
  intro d
  induction d with
  | zero =>
    intro p hp hb
    refine ⟨hv, br_t ?_ (hno (fun b h => hb b (by omega)))⟩
    rw [ec, nI_add]
    exact nI_lt (by omega) (by omega)
  | succ d ih =>
    intro p hp hb
    by_cases cp : p + l ≤ m
    · refine ⟨hv, br_f ?_ (xv_rev hi hl hl6 (by omega) (fun h => br_f (by decide) (hy p cp h)) (fun h => br_t rfl (nm_r (nI_1 p) (ih (p + 1) (by omega) (lt_s hb h)))))⟩
      rw [ec, nI_add]
      exact nI_nlt cp (by omega)
    · refine ⟨hv, br_t ?_ (hno (fun b h => hb b (by omega)))⟩
      rw [ec, nI_add]
      exact nI_lt (by omega) (by omega)
theorem yh_l {post : Int32 → SY → Prop} {aZ aS aE aN aD aJ aW : Nat → Int32} {c i n l : Nat} (hc : c ≤ 5) (hi : i < c) (hl : aZ i = nI l) (hl6 : l ≤ 6) (hn : n ≤ 30) (hy : ∀ p, p + l ≤ n → (∀ x, x < l → aJ (p + x) = aS (6 * i + (l - 1 - x))) → post 1 (nI c, aZ, aS, aE, aN, aD, aJ, aW)) (hno : (∀ b, b + l ≤ n → ¬ ∀ x, x < l → aJ (b + x) = aS (6 * i + (l - 1 - x))) → post 0 (nI c, aZ, aS, aE, aN, aD, aJ, aW)) : ∀ d p b, p + d = n + 1 → ((b = 0 ∧ ∀ q, q < p → ¬ ∀ x, x < l → aJ (q + x) = aS (6 * i + (l - 1 - x))) ∨ (b = 1 ∧ ∃ q, q + l ≤ n ∧ ∀ x, x < l → aJ (q + x) = aS (6 * i + (l - 1 - x)))) → wY_hasReverse_10 post (nI i) (nI n) (nI c) aZ aS aE aN aD aJ aW (d + 1) b (nI p) := by
  have ec : aZ (nI i).toNatClampNeg = nI l := by rw [nI_clamp (by omega)]; exact hl
  have hv : vp_in (nI i) 5 := vp_in_nI (by omega) (by omega)
  intro d
  induction d with
  | zero =>
    intro p b hp hb
    rw [wY_hasReverse_10]
    refine yr_yes hc hi ?_
    refine br_f (by decide) ⟨hv, br_t ?_ ?_⟩
    · rw [ec, nI_add]
      exact nI_lt (by omega) (by omega)
    · rcases hb with ⟨rfl, hb⟩ | ⟨rfl, q, q1, q2⟩
      · exact ⟨nb_0, hno (fun b h => hb b (by omega))⟩
      · exact ⟨nb_1, hy q q1 q2⟩
  | succ d ih =>
    intro p b hp hb
    rw [wY_hasReverse_10]
    refine yr_yes hc hi ?_
    by_cases cp : p + l ≤ n
    · refine br_f (by decide) ⟨hv, br_f (by rw [ec, nI_add]; exact nI_nlt cp (by omega)) ?_⟩
      rcases hb with ⟨rfl, hb⟩ | ⟨rfl, hb⟩
      · exact br_t rfl (yt_stands (fun x => l - 1 - x) (by omega) hl hl6 (by omega) (Or.inr ⟨rfl, fun _ _ => rfl⟩) (fun h => br_f (by decide) (nm_r (nI_1 p) (ih (p + 1) 1 (by omega) (Or.inr ⟨rfl, p, cp, h⟩)))) (fun h => br_t rfl (nm_r (nI_1 p) (ih (p + 1) 0 (by omega) (Or.inl ⟨rfl, lt_s hb h⟩)))))
      · exact br_f (by decide) (nm_r (nI_1 p) (ih (p + 1) 1 (by omega) (Or.inr ⟨rfl, hb⟩)))
    · refine br_f (by decide) ⟨hv, br_t (by rw [ec, nI_add]; exact nI_lt (by omega) (by omega)) ?_⟩
      rcases hb with ⟨rfl, hb⟩ | ⟨rfl, q, q1, q2⟩
      · exact ⟨nb_0, hno (fun b h => hb b (by omega))⟩
      · exact ⟨nb_1, hy q q1 q2⟩
theorem yh_no {post : Int32 → SY → Prop} {aZ aS aE aN aD aJ aW : Nat → Int32} {c : Nat} {i x2 x4 : Int32} (hi : i < 0 ∨ nI c ≤ i) (h : post 0 (nI c, aZ, aS, aE, aN, aD, aJ, aW)) : wY_hasReverse_10 post i x2 (nI c) aZ aS aE aN aD aJ aW (0 + 1) 0 x4 := by
  rw [wY_hasReverse_10]
  refine yr_no hi ?_
  exact br_t rfl ⟨nb_0, h⟩
end
section
theorem i_vc_hasReverse {k : Nat} {u : SX} {v : SY} (I : i_Rel k u v) (hk : k + 3 ≤ 1536) (v1 : Int32) : wpX_hasReverse (fun r u' => wpY_hasReverse (fun r' v' => r' = r ∧ i_Rel (k + 3) u' v') v v1) u v1 := by
  obtain ⟨c, L, sy, tl, jl, aS, aL, aO, aT, aJ, aZ, bS, aE, aN, aD, bJ, aW, rfl, rfl, P, Q⟩ := rl_get I
  have hc := P.2.1
  unfold wpX_hasReverse
  dsimp only
  rcases ix_2 v1 hc with hi | ⟨i, hi, rfl⟩
  · refine xr_no hi ?_
    refine br_t rfl ?_
    unfold wpY_hasReverse
    dsimp only
    exact yw_write Q (fun _ _ _ _ _ g n n1 n2 n3 => ⟨0 + 1, yh_no hi ⟨rfl, rl_mk P Q⟩⟩)
  · obtain ⟨l1, l2⟩ := P.2.2.1 i hi
    obtain ⟨z1, _⟩ := Q.2.2.1 i hi
    refine xr_yes hc hi ?_
    refine br_f (by decide) (xf_all P (fun tl aO aT aJ S m m1 m2 m3 => ?_))
    dsimp only
    have key : ∀ p, p + L i ≤ m → ((∀ x, x < L i → aJ (p + x) = aS (6 * i + (L i - 1 - x))) ↔ ∀ x, x < L i → S (p + x) = sy i (L i - 1 - x)) := fun p hp => tr_eq m3 (P.2.2.2 i hi) (fun x => L i - 1 - x) (fun x hx => by omega) hp
    have keyY : ∀ (cJ : Nat → Int32) (g : Nat → Nat), (∀ x, x < m → S x = g x) → (∀ x, x < m → cJ x = nI (g x) ∧ g x < 4) → ∀ p, p + L i ≤ m → ((∀ x, x < L i → cJ (p + x) = bS (6 * i + (L i - 1 - x))) ↔ ∀ x, x < L i → S (p + x) = sy i (L i - 1 - x)) := by
      intro cJ g hg hJ p hp
      exact tr_eq (fun x hx => by rw [hg x hx]; exact hJ x hx) (Q.2.2.2 i hi) (fun x => L i - 1 - x) (fun x hx => by omega) hp
    refine ⟨m + 1 + 1, xv_18 (by omega) l1 l2 m1 (fun p p1 p2 => ?_) (fun hno => ?_) (m + 1) 0 (by omega) (fun b hb => absurd hb (Nat.not_lt_zero b))⟩
    · unfold wpY_hasReverse
      dsimp only
      refine yw_write Q (fun _ _ _ cJ _ g n n1 n2 n3 => ?_)
      obtain ⟨e, he⟩ := st_first_unique m2 n2
      subst e
      have kY := keyY cJ g he n3
      exact ⟨m + 1 + 1, yh_l hc hi z1 l2 m1 (fun _ _ _ => ⟨rfl, rl_mk P Q⟩) (fun hno => absurd ((kY p p1).mpr ((key p p1).mp p2)) (hno p p1)) (m + 1) 0 0 (by omega) (Or.inl ⟨rfl, fun b hb => absurd hb (Nat.not_lt_zero b)⟩)⟩
    · unfold wpY_hasReverse
      dsimp only
      refine yw_write Q (fun _ _ _ cJ _ g n n1 n2 n3 => ?_)
      obtain ⟨e, he⟩ := st_first_unique m2 n2
      subst e
      have kY := keyY cJ g he n3
      exact ⟨m + 1 + 1, yh_l hc hi z1 l2 m1 (fun q q1 q2 => absurd ((key q q1).mpr ((kY q q1).mp q2)) (hno q q1)) (fun _ => ⟨rfl, rl_mk P Q⟩) (m + 1) 0 0 (by omega) (Or.inl ⟨rfl, fun b hb => absurd hb (Nat.not_lt_zero b)⟩)⟩
end
