/-! SUMS OF THE GREATEST -/
theorem psum_term {f g : Nat → Nat} {a b : Nat} : ∀ m, (∀ j, j < m → (if a.testBit j then f j else 0) ≤ (if b.testBit j then g j else 0)) → psum f a m ≤ psum g b m
  | 0, _ => Nat.le_refl _
  | m + 1, h => Nat.add_le_add (psum_term m (fun j hj => h j (by omega))) (h m (by omega))
theorem psum_ge {f : Nat → Nat} {a j : Nat} : ∀ m, j < m → a.testBit j = true → f j ≤ psum f a m
  | 0, h, _ => absurd h (by omega)
  | m + 1, h, hb => by
    show f j ≤ psum f a m + (if a.testBit m then f m else 0)
    by_cases e : j = m
    · subst e
      rw [if_pos hb]
      omega
    · have := psum_ge (f := f) m (by omega) hb
      omega
theorem pck_max {f : Nat → Nat} {c s : Nat} : ∀ m j, j < m → c.testBit j = true → s.testBit j = false → f j ≤ ov f (pck f c s m)
  | 0, j, h, _, _ => absurd h (by omega)
  | m + 1, j, h, h1, h2 => by
    by_cases q : c.testBit m = true ∧ s.testBit m = false ∧ ov f (pck f c s m) < f m
    · rw [pck_yes q]
      show f j ≤ f m
      by_cases e : j = m
      · rw [e]
        exact Nat.le_refl _
      · have := pck_max (f := f) (c := c) (s := s) m j (by omega) h1 h2
        omega
    · rw [pck_no q]
      by_cases e : j = m
      · subst e
        apply Classical.byContradiction
        intro z
        exact q ⟨h1, h2, by omega⟩
      · exact pck_max m j (by omega) h1 h2
theorem wst_s {f : Nat → Nat} {c m g k : Nat} (h : pck f c (wst f c m g) m = some k) : wst f c m (g + 1) = wst f c m g ||| 2 ^ k := by
  show (match pck f c (wst f c m g) m with | none => wst f c m g | some k => wst f c m g ||| 2 ^ k) = _
  rw [h]
theorem wst_n {f : Nat → Nat} {c m g : Nat} (h : pck f c (wst f c m g) m = none) : wst f c m (g + 1) = wst f c m g := by
  show (match pck f c (wst f c m g) m with | none => wst f c m g | some k => wst f c m g ||| 2 ^ k) = _
  rw [h]
theorem wst_size {f : Nat → Nat} {c m : Nat} : ∀ g, psum (fun _ => 1) (wst f c m g) m ≤ g
  | 0 => by
    show psum (fun _ => 1) 0 m ≤ 0
    rw [psum0]
    exact Nat.le_refl _
  | g + 1 => by
    have ih := wst_size (f := f) (c := c) (m := m) g
    cases q : pck f c (wst f c m g) m with
    | none =>
      rw [wst_n q]
      omega
    | some k =>
      obtain ⟨h1, -, h3, -⟩ := pck_spec q
      rw [wst_s q, psum_or h1 h3]
      omega
theorem take_out {s j : Nat} (h : s.testBit j = true) : zdf s (2 ^ j) ||| 2 ^ j = s ∧ (zdf s (2 ^ j)).testBit j = false := by
  constructor
  · apply Nat.eq_of_testBit_eq
    intro i
    rw [Nat.testBit_or, zdf_bit, Nat.testBit_two_pow]
    by_cases e : j = i
    · subst e
      rw [h]
      simp
    · simp [e]
  · rw [zdf_bit, Nat.testBit_two_pow]
    simp
theorem psum_out {f : Nat → Nat} {s j m : Nat} (hj : j < m) (h : s.testBit j = true) : psum f s m = psum f (zdf s (2 ^ j)) m + f j := by
  have := take_out h
  have e := psum_or (f := f) hj this.2
  rw [this.1] at e
  exact e
theorem wst_best {f : Nat → Nat} {c m : Nat} : ∀ g s, (∀ j, j < m → s.testBit j = true → c.testBit j = true) → psum (fun _ => 1) s m ≤ g → psum f s m ≤ psum f (wst f c m g) m
  | 0, s, _, h => by
    refine psum_term m (fun j hj => ?_)
    by_cases q : s.testBit j = true
    · have := psum_ge (f := fun _ => 1) m hj q
      omega
    · rw [if_neg q]
      exact Nat.zero_le _
  | g + 1, s, hs, h => by
    cases q : pck f c (wst f c m g) m with
    | none =>
      rw [wst_n q]
      refine psum_term m (fun j hj => ?_)
      by_cases q1 : s.testBit j = true
      · rw [if_pos q1]
        by_cases q2 : (wst f c m g).testBit j = true
        · rw [if_pos q2]
          exact Nat.le_refl _
        · have := pck_max (f := f) m j hj (hs j hj q1) (Bool.eq_false_iff.mpr q2)
          rw [q] at this
          have : f j ≤ 0 := this
          omega
      · rw [if_neg q1]
        exact Nat.zero_le _
    | some k =>
      obtain ⟨k1, k2, k3, -⟩ := pck_spec q
      rw [wst_s q, psum_or k1 k3]
      by_cases z : ∃ j, j < m ∧ s.testBit j = true ∧ (wst f c m g).testBit j = false
      · obtain ⟨j, j1, j2, j3⟩ := z
        have h1 := pck_max (f := f) m j j1 (hs j j1 j2) j3
        rw [q] at h1
        have h1 : f j ≤ f k := h1
        have e1 := psum_out (f := f) j1 j2
        have e2 := psum_out (f := fun _ => 1) j1 j2
        have ih := wst_best (f := f) (c := c) (m := m) g (zdf s (2 ^ j)) (fun i hi hb => hs i hi (by rw [zdf_bit] at hb; cases y : s.testBit i <;> rw [y] at hb <;> first | rfl | exact absurd hb (by simp))) (by omega)
        omega
      · have : psum f s m ≤ psum f (wst f c m g) m := by
          refine psum_term m (fun j hj => ?_)
          by_cases q1 : s.testBit j = true
          · rw [if_pos q1, if_pos (by
              cases y : (wst f c m g).testBit j with
              | true => rfl
              | false => exact absurd ⟨j, hj, q1, y⟩ z)]
            exact Nat.le_refl _
          · rw [if_neg q1]
            exact Nat.zero_le _
        omega
theorem wst_in {f : Nat → Nat} {c m g j : Nat} (h : (wst f c m g).testBit j = true) : c.testBit j = true := by
  have := congrArg (fun x => x.testBit j) (wst_sub (f := f) (c := c) (m := m) g)
  simp only [Nat.testBit_and] at this
  rw [h] at this
  simpa using this
/-- one item more, with the least change -/
theorem wst_add {f : Nat → Nat} {r k m g : Nat} (hk : k < m) (hr : r.testBit k = false) (hmin : ∀ j, j < m → r.testBit j = true → f k ≤ f j) : psum f (wst f (r ||| 2 ^ k) m g) m = psum f (wst f r m g) m + (if psum (fun _ => 1) r m < g then f k else 0) := by
  have bit : ∀ j, (r ||| 2 ^ k).testBit j = true ↔ r.testBit j = true ∨ k = j := fun j => by
    rw [Nat.testBit_or, Nat.testBit_two_pow]
    simp
  have s1 := wst_size (f := f) (c := r ||| 2 ^ k) (m := m) g
  have s2 := wst_size (f := f) (c := r) (m := m) g
  apply Nat.le_antisymm
  · by_cases z : (wst f (r ||| 2 ^ k) m g).testBit k = true
    · have e1 := psum_out (f := f) hk z
      have e2 := psum_out (f := fun _ => 1) hk z
      have sub : ∀ j, j < m → (zdf (wst f (r ||| 2 ^ k) m g) (2 ^ k)).testBit j = true → r.testBit j = true := fun j hj hb => by
        rw [zdf_bit, Nat.testBit_two_pow] at hb
        have h1 : (wst f (r ||| 2 ^ k) m g).testBit j = true := by
          cases y : (wst f (r ||| 2 ^ k) m g).testBit j with
          | true => rfl
          | false => rw [y] at hb; exact absurd hb (by simp)
        rcases (bit j).mp (wst_in h1) with q | q
        · exact q
        · rw [h1, q] at hb
          simp at hb
      by_cases y : psum (fun _ => 1) r m < g
      · rw [if_pos y, e1]
        have := wst_best (f := f) (c := r) (m := m) g _ sub (by omega)
        omega
      · rw [if_neg y, e1, Nat.add_zero]
        have ex : ∃ j, j < m ∧ r.testBit j = true ∧ (zdf (wst f (r ||| 2 ^ k) m g) (2 ^ k)).testBit j = false := by
          apply Classical.byContradiction
          intro no
          have : psum (fun _ => 1) r m ≤ psum (fun _ => 1) (zdf (wst f (r ||| 2 ^ k) m g) (2 ^ k)) m := by
            refine psum_term m (fun j hj => ?_)
            by_cases q1 : r.testBit j = true
            · rw [if_pos q1, if_pos (by
                cases y : (zdf (wst f (r ||| 2 ^ k) m g) (2 ^ k)).testBit j with
                | true => rfl
                | false => exact absurd ⟨j, hj, q1, y⟩ no)]
              exact Nat.le_refl _
            · rw [if_neg q1]
              exact Nat.zero_le _
          omega
        obtain ⟨j, j1, j2, j3⟩ := ex
        have o1 := psum_or (f := f) j1 j3
        have o2 := psum_or (f := fun _ => 1) j1 j3
        have := wst_best (f := f) (c := r) (m := m) g (zdf (wst f (r ||| 2 ^ k) m g) (2 ^ k) ||| 2 ^ j) (fun i hi hb => by
          rw [Nat.testBit_or, Nat.testBit_two_pow] at hb
          by_cases e : j = i
          · rw [← e]
            exact j2
          · simp [e] at hb
            exact sub i hi hb) (by omega)
        have := hmin j j1 j2
        omega
    · have := wst_best (f := f) (c := r) (m := m) g (wst f (r ||| 2 ^ k) m g) (fun j hj hb => by
        rcases (bit j).mp (wst_in hb) with q | q
        · exact q
        · rw [← q] at hb
          exact absurd hb z) s1
      omega
  · by_cases y : psum (fun _ => 1) r m < g
    · rw [if_pos y]
      have o1 := psum_or (f := f) hk hr
      have o2 := psum_or (f := fun _ => 1) hk hr
      have h1 := wst_best (f := f) (c := r ||| 2 ^ k) (m := m) g (r ||| 2 ^ k) (fun _ _ h => h) (by omega)
      have h2 : psum f (wst f r m g) m ≤ psum f r m := psum_term m (fun j hj => by
        by_cases q1 : (wst f r m g).testBit j = true
        · rw [if_pos q1, if_pos (wst_in q1)]
          exact Nat.le_refl _
        · rw [if_neg q1]
          exact Nat.zero_le _)
      omega
    · rw [if_neg y, Nat.add_zero]
      exact wst_best g _ (fun j hj hb => (bit j).mpr (Or.inl (wst_in hb))) s2
theorem psum_hi {f : Nat → Nat} {c n : Nat} (hc : c < 2 ^ n) : ∀ d, psum f c (n + d) = psum f c n
  | 0 => rfl
  | d + 1 => by
    show psum f c (n + d) + (if c.testBit (n + d) then f (n + d) else 0) = _
    rw [psum_hi hc d, if_neg (by rw [Nat.testBit_lt_two_pow (lt_pow hc (by omega))]; decide)]
    rfl
theorem pop_n {c n : Nat} (hc : c < 2 ^ n) (hn : n ≤ 12) : pop c = psum (fun _ => 1) c n := by
  have := psum_hi (f := fun _ => 1) hc (12 - n)
  rw [show n + (12 - n) = 12 by omega] at this
  exact this
