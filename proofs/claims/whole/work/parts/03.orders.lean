theorem cu_cut {L : Nat → Nat} {sy : Nat → Nat → Nat} {W : Nat → Prop} {f S pl : Nat → Nat} {t nS r s : Nat} (hS : st_First L sy W S nS) (hpl : ∀ j, W j → st_At L sy S nS j (pl j) ∧ ∀ p, st_At L sy S nS j p → pl j ≤ p) (hr : W r) (ht : t ≤ nS) (hf : ∀ x, x < t → f x = S x) (hq : ∀ q, W q → pl q + L q ≤ t ∨ pl r ≤ pl q) (hn : ¬ st_Has L sy f t r) (hE : st_End L sy f t r s) (hm : ∀ k, st_End L sy f t r k → k ≤ s) : pl r + s = t := by
  obtain ⟨⟨ha, hb⟩, hc⟩ := hpl r hr
  obtain ⟨e1, e2, e3⟩ := hE
  have c1 : ¬ pl r + L r ≤ t := fun z => hn ⟨pl r, z, fun x hx => by rw [hf (pl r + x) (by omega)]; exact hb x hx⟩
  have c2 : t ≤ pl r + s := by
    by_cases c : pl r ≤ t
    · have h := hm (t - pl r) ⟨by omega, by omega, fun x hx => by
        rw [show t - (t - pl r) + x = pl r + x by omega, hf (pl r + x) (by omega)]
        exact hb x (by omega)⟩
      omega
    · omega
  by_cases c3 : pl r + s = t
  · exact c3
  · exfalso
    obtain ⟨⟨o1, o2⟩, l⟩ := hS
    have hd : ∃ d, d + t = pl r + s := ⟨pl r + s - t, by omega⟩
    obtain ⟨d, hd⟩ := hd
    have hper : ∀ y, t ≤ y + s → y < t → S y = S (y + d) := by
      intro y h1 h2
      have q1 := e3 (y + s - t) (by omega)
      rw [show t - s + (y + s - t) = y by omega, hf y h2] at q1
      have q2 := hb (y + s - t) (by omega)
      rw [show pl r + (y + s - t) = y + d by omega] at q2
      rw [q1, q2]
    have hok : st_Ok L sy W (fun x => if x < t then S x else S (x + d)) (nS - d) := by
      constructor
      · intro x hx
        dsimp only
        split
        · exact o1 x (by omega)
        · exact o1 (x + d) (by omega)
      · intro q hq'
        obtain ⟨⟨qa, qb⟩, _⟩ := hpl q hq'
        rcases hq q hq' with h | h
        · refine ⟨pl q, by omega, fun x hx => ?_⟩
          dsimp only
          rw [if_pos (show pl q + x < t by omega)]
          exact qb x hx
        · refine ⟨pl q - d, by omega, fun x hx => ?_⟩
          dsimp only
          have e : pl q - d + x + d = pl q + x := by omega
          split
          · rename_i hlt
            rw [hper (pl q - d + x) (by omega) hlt, e]
            exact qb x hx
          · rw [e]
            exact qb x hx
    have := (l _ _ hok).1
    omega
def so_sw (o : Nat → Nat) (p q : Nat) : Nat → Nat := fun x => if x = p then o q else if x = q then o p else o x
def so_run : Nat → Nat → Nat → (Nat → Nat) → Nat → Nat
  | 0, _, _, o => o
  | d + 1, p, rest, o => so_run d (p + 1) (rest / (d + 1)) (so_sw o p (p + rest % (d + 1)))
def so_f : Nat → Nat
  | 0 => 1
  | d + 1 => (d + 1) * so_f d
theorem so_sw_val (o : Nat → Nat) (p q x : Nat) (hq : p ≤ q) (hq5 : q < 5) (hx : p ≤ x) (hx5 : x < 5) : ∃ y, p ≤ y ∧ y < 5 ∧ so_sw o p q x = o y := by
  unfold so_sw
  by_cases c1 : x = p
  · exact ⟨q, hq, hq5, if_pos c1⟩
  · rw [if_neg c1]
    by_cases c2 : x = q
    · exact ⟨p, by omega, by omega, if_pos c2⟩
    · exact ⟨x, hx, hx5, if_neg c2⟩
theorem so_keep : ∀ (d p rest : Nat) (o : Nat → Nat) (x : Nat), x < p → so_run d p rest o x = o x := by
  intro d
  induction d with
  | zero => intro p rest o x _; rfl
  | succ d ih =>
    intro p rest o x hx
    show so_run d (p + 1) _ _ x = o x
    rw [ih _ _ _ x (by omega)]
    unfold so_sw
    rw [if_neg (by omega), if_neg (by omega)]
theorem so_val : ∀ (d p rest : Nat) (o : Nat → Nat), d + p = 5 → ∀ x, p ≤ x → x < 5 → ∃ y, p ≤ y ∧ y < 5 ∧ so_run d p rest o x = o y := by
  intro d
  induction d with
  | zero => intro p rest o h x h1 h2; exact ⟨x, h1, h2, rfl⟩
  | succ d ih =>
    intro p rest o h x h1 h2
    have hm : rest % (d + 1) < d + 1 := Nat.mod_lt _ (by omega)
    show ∃ y, p ≤ y ∧ y < 5 ∧ so_run d (p + 1) (rest / (d + 1)) (so_sw o p (p + rest % (d + 1))) x = o y
    by_cases c : x = p
    · rw [so_keep d (p + 1) _ _ x (by omega)]
      exact so_sw_val o p _ x (by omega) (by omega) h1 h2
    · obtain ⟨y, y1, y2, e⟩ := ih (p + 1) (rest / (d + 1)) (so_sw o p (p + rest % (d + 1))) (by omega) x (by omega) h2
      rw [e]
      exact so_sw_val o p _ y (by omega) (by omega) (by omega) y2
theorem so_sw_onto (o : Nat → Nat) (p q y : Nat) (hq : p ≤ q) (hq5 : q < 5) (hy : p ≤ y) (hy5 : y < 5) : ∃ x, p ≤ x ∧ x < 5 ∧ so_sw o p q x = o y := by
  by_cases c1 : y = q
  · refine ⟨p, by omega, by omega, ?_⟩
    unfold so_sw
    rw [if_pos rfl, c1]
  · by_cases c2 : y = p
    · refine ⟨q, hq, hq5, ?_⟩
      unfold so_sw
      rw [if_neg (by omega), if_pos rfl, c2]
    · refine ⟨y, hy, hy5, ?_⟩
      unfold so_sw
      rw [if_neg c2, if_neg c1]
theorem so_onto : ∀ (d p rest : Nat) (o : Nat → Nat), d + p = 5 → ∀ y, p ≤ y → y < 5 → ∃ x, p ≤ x ∧ x < 5 ∧ so_run d p rest o x = o y := by
  intro d
  induction d with
  | zero => intro p rest o h x h1 h2; exact ⟨x, h1, h2, rfl⟩
  | succ d ih =>
    intro p rest o h y h1 h2
    have hm : rest % (d + 1) < d + 1 := Nat.mod_lt _ (by omega)
    show ∃ x, p ≤ x ∧ x < 5 ∧ so_run d (p + 1) (rest / (d + 1)) (so_sw o p (p + rest % (d + 1))) x = o y
    obtain ⟨x, x1, x2, e⟩ := so_sw_onto o p (p + rest % (d + 1)) y (by omega) (by omega) h1 h2
    by_cases c : x = p
    · exact ⟨x, x1, x2, by rw [so_keep d (p + 1) _ _ x (by omega)]; exact e⟩
    · obtain ⟨z, z1, z2, e2⟩ := ih (p + 1) (rest / (d + 1)) (so_sw o p (p + rest % (d + 1))) (by omega) x (by omega) x2
      exact ⟨z, by omega, z2, e2.trans e⟩
theorem so_sort (pl : Nat → Nat) : ∀ (d p : Nat) (o : Nat → Nat), d + p = 5 → ∃ rest, rest < so_f d ∧ ∀ x y, p ≤ x → x ≤ y → y < 5 → pl (so_run d p rest o x) ≤ pl (so_run d p rest o y) := by
  intro d
  induction d with
  | zero => intro p o h; exact ⟨0, by decide, fun x y h1 h2 h3 => by omega⟩
  | succ d ih =>
    intro p o h
    obtain ⟨v, ⟨q, q1, q2, qv⟩, hmin⟩ := pk_least (fun v => ∃ q, p ≤ q ∧ q < 5 ∧ pl (o q) = v) ⟨pl (o p), p, by omega, by omega, rfl⟩
    have hle : ∀ y, p ≤ y → y < 5 → pl (o q) ≤ pl (o y) := by
      intro y y1 y2
      by_cases c : pl (o y) < v
      · exact absurd ⟨y, y1, y2, rfl⟩ (hmin _ c)
      · omega
    obtain ⟨rest, hr, hs⟩ := ih (p + 1) (so_sw o p q) (by omega)
    refine ⟨(q - p) + (d + 1) * rest, ?_, ?_⟩
    · have := Nat.mul_le_mul_left (d + 1) (show rest + 1 ≤ so_f d from hr)
      rw [Nat.mul_add] at this
      show q - p + (d + 1) * rest < (d + 1) * so_f d
      omega
    · have e1 : ((q - p) + (d + 1) * rest) % (d + 1) = q - p := by
        rw [Nat.add_mul_mod_self_left]
        exact Nat.mod_eq_of_lt (by omega)
      have e2 : ((q - p) + (d + 1) * rest) / (d + 1) = rest := by
        rw [Nat.add_mul_div_left _ _ (by omega), Nat.div_eq_of_lt (by omega), Nat.zero_add]
      have e3 : p + (q - p) = q := by omega
      intro x y h1 h2 h3
      show pl (so_run d (p + 1) (((q - p) + (d + 1) * rest) / (d + 1)) (so_sw o p (p + ((q - p) + (d + 1) * rest) % (d + 1))) x) ≤ pl (so_run d (p + 1) (((q - p) + (d + 1) * rest) / (d + 1)) (so_sw o p (p + ((q - p) + (d + 1) * rest) % (d + 1))) y)
      rw [e1, e2, e3]
      by_cases c : x = p
      · have ex : so_run d (p + 1) rest (so_sw o p q) x = o q := by
          rw [so_keep d (p + 1) _ _ x (by omega)]
          exact if_pos c
        rw [ex]
        by_cases c2 : y = p
        · have ey : so_run d (p + 1) rest (so_sw o p q) y = o q := by
            rw [so_keep d (p + 1) _ _ y (by omega)]
            exact if_pos c2
          rw [ey]
          exact Nat.le_refl _
        · obtain ⟨z, z1, z2, e⟩ := so_val d (p + 1) rest (so_sw o p q) (by omega) y (by omega) h3
          obtain ⟨z', z1', z2', e'⟩ := so_sw_val o p q z q1 q2 (by omega) z2
          rw [e, e']
          exact hle z' z1' z2'
      · exact hs x y (by omega) h2 h3
def ji_Sorted (pl o : Nat → Nat) : Prop := ∀ x y, x ≤ y → y < 5 → pl (o x) ≤ pl (o y)
def ji_I (L : Nat → Nat) (sy : Nat → Nat → Nat) (W : Nat → Prop) (o pl S : Nat → Nat) (nS p : Nat) (f : Nat → Nat) (t : Nat) : Prop := (∀ x, x < t → f x < 4) ∧ (∀ y, y < p → W (o y) → st_Has L sy f t (o y)) ∧ (ji_Sorted pl o → t ≤ nS ∧ (∀ x, x < t → f x = S x) ∧ ∀ y, y < p → W (o y) → pl (o y) + L (o y) ≤ t)
theorem ji_0 {L : Nat → Nat} {sy : Nat → Nat → Nat} {W : Nat → Prop} {o pl S f : Nat → Nat} {nS : Nat} : ji_I L sy W o pl S nS 0 f 0 := ⟨fun x hx => by omega, fun y hy => by omega, fun _ => ⟨by omega, fun x hx => by omega, fun y hy => by omega⟩⟩
theorem ji_skip {L : Nat → Nat} {sy : Nat → Nat → Nat} {W : Nat → Prop} {o pl S f : Nat → Nat} {nS p t : Nat} (hpl : ∀ j, W j → st_At L sy S nS j (pl j) ∧ ∀ q, st_At L sy S nS j q → pl j ≤ q) (h : ji_I L sy W o pl S nS p f t) (hh : W (o p) → st_Has L sy f t (o p)) : ji_I L sy W o pl S nS (p + 1) f t := by
  obtain ⟨a, b, c⟩ := h
  refine ⟨a, fun y hy hw => ?_, fun hs => ?_⟩
  · by_cases e : y = p
    · subst e; exact hh hw
    · exact b y (by omega) hw
  · obtain ⟨c1, c2, c3⟩ := c hs
    refine ⟨c1, c2, fun y hy hw => ?_⟩
    by_cases e : y = p
    · subst e
      obtain ⟨q, q1, q2⟩ := hh hw
      have := (hpl _ hw).2 q ⟨by omega, fun x hx => by rw [← c2 (q + x) (by omega)]; exact q2 x hx⟩
      omega
    · exact c3 y (by omega) hw
theorem ji_ext {L : Nat → Nat} {sy : Nat → Nat → Nat} {W : Nat → Prop} {o pl S f f' : Nat → Nat} {nS p t s : Nat} (hS : st_First L sy W S nS) (hpl : ∀ j, W j → st_At L sy S nS j (pl j) ∧ ∀ q, st_At L sy S nS j q → pl j ≤ q) (hp : p < 5) (hsur : ∀ j, W j → ∃ x, x < 5 ∧ o x = j) (hsy : ∀ x, x < L (o p) → sy (o p) x < 4) (h : ji_I L sy W o pl S nS p f t) (hw : W (o p)) (hn : ¬ st_Has L sy f t (o p)) (hE : st_End L sy f t (o p) s) (hm : ∀ k, st_End L sy f t (o p) k → k ≤ s) (h1 : ∀ x, x < t → f' x = f x) (h2 : ∀ y, y < L (o p) - s → f' (t + y) = sy (o p) (s + y)) : ji_I L sy W o pl S nS (p + 1) f' (t + (L (o p) - s)) := by
  obtain ⟨a, b, c⟩ := h
  have hE' := hE
  obtain ⟨e1, e2, e3⟩ := hE'
  refine ⟨fun x hx => ?_, fun y hy hwy => ?_, fun hs => ?_⟩
  · by_cases cx : x < t
    · rw [h1 x cx]; exact a x cx
    · have := h2 (x - t) (by omega)
      rw [show t + (x - t) = x by omega] at this
      rw [this]
      exact hsy _ (by omega)
  · by_cases e : y = p
    · subst e
      refine ⟨t - s, by omega, fun x hx => ?_⟩
      by_cases cx : x < s
      · rw [h1 _ (by omega)]; exact e3 x cx
      · have := h2 (x - s) (by omega)
        rw [show t + (x - s) = t - s + x by omega, show s + (x - s) = x by omega] at this
        exact this
    · exact st_has_ext (by omega) (fun x hx => (h1 x hx).symm) (b y (by omega) hwy)
  · obtain ⟨c1, c2, c3⟩ := c hs
    have hcut : pl (o p) + s = t := by
      refine cu_cut hS hpl hw c1 c2 (fun q hq => ?_) hn hE hm
      obtain ⟨x, hx, rfl⟩ := hsur q hq
      by_cases cx : x < p
      · exact Or.inl (c3 x cx hq)
      · exact Or.inr (hs p x (by omega) hx)
    obtain ⟨⟨pa, pb⟩, _⟩ := hpl _ hw
    refine ⟨by omega, fun x hx => ?_, fun y hy hwy => ?_⟩
    · by_cases cx : x < t
      · rw [h1 x cx]; exact c2 x cx
      · have q1 := h2 (x - t) (by omega)
        have q2 := pb (s + (x - t)) (by omega)
        rw [show t + (x - t) = x by omega] at q1
        rw [show pl (o p) + (s + (x - t)) = x by omega] at q2
        rw [q1, q2]
    · by_cases e : y = p
      · subst e; omega
      · have := c3 y (by omega) hwy
        omega
theorem ji_end {L : Nat → Nat} {sy : Nat → Nat → Nat} {W : Nat → Prop} {o pl S f : Nat → Nat} {nS t : Nat} (hS : st_First L sy W S nS) (hsur : ∀ j, W j → ∃ x, x < 5 ∧ o x = j) (h : ji_I L sy W o pl S nS 5 f t) : st_Ok L sy W f t ∧ (ji_Sorted pl o → t = nS ∧ ∀ x, x < t → f x = S x) := by
  obtain ⟨a, b, c⟩ := h
  have ok : st_Ok L sy W f t := ⟨a, fun j hj => by
    obtain ⟨x, hx, rfl⟩ := hsur j hj
    exact b x hx hj⟩
  refine ⟨ok, fun hs => ?_⟩
  obtain ⟨c1, c2, _⟩ := c hs
  have := (hS.2 f t ok).1
  exact ⟨by omega, c2⟩
theorem so_all (pl : Nat → Nat) : ∃ code, code < 120 ∧ ji_Sorted pl (so_run 5 0 code (fun x => x)) := by
  obtain ⟨r, hr, hs⟩ := so_sort pl 5 0 (fun x => x) rfl
  exact ⟨r, hr, fun x y h1 h2 => hs x y (Nat.zero_le _) h1 h2⟩
theorem so_sur (code : Nat) : ∀ j, j < 5 → ∃ x, x < 5 ∧ so_run 5 0 code (fun x => x) x = j := by
  intro j hj
  obtain ⟨x, _, h, e⟩ := so_onto 5 0 code (fun x => x) rfl j (Nat.zero_le _) hj
  exact ⟨x, h, e⟩
