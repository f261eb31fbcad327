/-! THE OPTIMUM, and the staircase of capacities -/
def isOpt (ok : Nat → Bool) (V : Nat → Int) (W : Nat → Nat) (m b : Nat) : Prop := b < m ∧ ok b = true ∧ ∀ c, c < m → ok c = true → V c < V b ∨ (V c = V b ∧ (W b < W c ∨ (W b = W c ∧ b ≤ c)))
theorem bst_none {ok : Nat → Bool} {V : Nat → Int} {W : Nat → Nat} {m : Nat} (h : bst ok V W m = none) : ∀ c, c < m → ok c = false := by
  induction m with
  | zero => exact fun c hc => by omega
  | succ m ih =>
    by_cases q : ok m = true ∧ bbe V W m (bst ok V W m)
    · rw [bst_yes q] at h
      cases h
    · rw [bst_no q] at h
      intro c hc
      by_cases e : c = m
      · subst e
        cases ho : ok c with
        | false => rfl
        | true => exact absurd ⟨ho, by rw [h]; trivial⟩ q
      · exact ih h c (by omega)
theorem bst_opt {ok : Nat → Bool} {V : Nat → Int} {W : Nat → Nat} : ∀ (m b : Nat), bst ok V W m = some b → isOpt ok V W m b
  | 0, b, h => by cases h
  | m + 1, b, h => by
    by_cases q : ok m = true ∧ bbe V W m (bst ok V W m)
    · rw [bst_yes q] at h
      cases h
      refine ⟨by omega, q.1, fun c hc ho => ?_⟩
      by_cases e : c = m
      · subst e
        exact Or.inr ⟨rfl, Or.inr ⟨rfl, Nat.le_refl _⟩⟩
      · cases hb : bst ok V W m with
        | none => rw [bst_none hb c (by omega)] at ho; cases ho
        | some b' =>
          have h1 := (bst_opt m b' hb).2.2 c (by omega) ho
          have h2 := q.2
          rw [hb] at h2
          have h2 : V b' < V m ∨ (V m = V b' ∧ W m < W b') := h2
          omega
    · rw [bst_no q] at h
      obtain ⟨h1, h2, h3⟩ := bst_opt m b h
      refine ⟨by omega, h2, fun c hc ho => ?_⟩
      by_cases e : c = m
      · subst e
        have h4 : ¬ (V b < V c ∨ (V c = V b ∧ W c < W b)) := fun z => q ⟨ho, by rw [h]; exact z⟩
        omega
      · exact h3 c (by omega) ho
theorem isOpt_uniq {ok : Nat → Bool} {V : Nat → Int} {W : Nat → Nat} {m b c : Nat} (hb : isOpt ok V W m b) (hc : isOpt ok V W m c) : b = c := by
  have h1 := hb.2.2 c hc.1 hc.2.1
  have h2 := hc.2.2 b hb.1 hb.2.1
  omega
theorem bst_iff {ok : Nat → Bool} {V : Nat → Int} {W : Nat → Nat} {m b : Nat} : bst ok V W m = some b ↔ isOpt ok V W m b := by
  refine ⟨bst_opt m b, fun h => ?_⟩
  cases hb : bst ok V W m with
  | none =>
    have := bst_none hb b h.1
    rw [h.2.1] at this
    cases this
  | some c => rw [isOpt_uniq (bst_opt m c hb) h]
/-- with capacity w -/
def okw (ok : Nat → Bool) (W : Nat → Nat) (w : Nat) : Nat → Bool := fun c => ok c && decide (W c ≤ w)
theorem okw_t {ok : Nat → Bool} {W : Nat → Nat} {w c : Nat} : okw ok W w c = true ↔ ok c = true ∧ W c ≤ w := by
  unfold okw
  rw [Bool.and_eq_true, decide_eq_true_eq]
noncomputable def sb (ok : Nat → Bool) (V : Nat → Int) (W : Nat → Nat) (m w : Nat) : Nat := (bst (okw ok W w) V W m).getD 0
theorem sb_opt {ok : Nat → Bool} {V : Nat → Int} {W : Nat → Nat} {m w : Nat} (hm : 0 < m) (h0 : ok 0 = true) (hw0 : W 0 = 0) : isOpt (okw ok W w) V W m (sb ok V W m w) := by
  obtain ⟨b, hb⟩ := bst_some (ok := okw ok W w) (V := V) (W := W) (okw_t.mpr ⟨h0, by omega⟩) m hm
  have e : sb ok V W m w = b := by unfold sb; rw [hb]; rfl
  rw [e]
  exact bst_opt m b hb
/-- a step: the empty choice, or a capacity with which the best one is worth more than with one less -/
def stp (ok : Nat → Bool) (V : Nat → Int) (W : Nat → Nat) (m w : Nat) : Prop := w = 0 ∨ V (sb ok V W m (w - 1)) < V (sb ok V W m w)
section SB
variable {ok : Nat → Bool} {V : Nat → Int} {W : Nat → Nat} {m : Nat}
theorem sb_mono (hm : 0 < m) (h0 : ok 0 = true) (hw0 : W 0 = 0) {w w' : Nat} (h : w ≤ w') : V (sb ok V W m w) ≤ V (sb ok V W m w') := by
  have h1 := sb_opt (V := V) (w := w) hm h0 hw0
  have h2 := sb_opt (V := V) (w := w') hm h0 hw0
  obtain ⟨a1, a2⟩ := okw_t.mp h1.2.1
  have := h2.2.2 _ h1.1 (okw_t.mpr ⟨a1, by omega⟩)
  omega
/-- at a step the best one has just this weight -/
theorem stp_W (hm : 0 < m) (h0 : ok 0 = true) (hw0 : W 0 = 0) {w : Nat} (h : stp ok V W m w) : W (sb ok V W m w) = w := by
  have h1 := sb_opt (V := V) (w := w) hm h0 hw0
  obtain ⟨a1, a2⟩ := okw_t.mp h1.2.1
  rcases h with h | h
  · omega
  · by_cases e : W (sb ok V W m w) = w
    · exact e
    · have h2 := sb_opt (V := V) (w := w - 1) hm h0 hw0
      have := h2.2.2 _ h1.1 (okw_t.mpr ⟨a1, by omega⟩)
      omega
/-- no step on the way: the same worth -/
theorem sb_flat {w d : Nat} (h : ∀ u, w < u → u ≤ w + d → ¬ stp ok V W m u) (hm : 0 < m) (h0 : ok 0 = true) (hw0 : W 0 = 0) : V (sb ok V W m (w + d)) = V (sb ok V W m w) := by
  induction d with
  | zero => rfl
  | succ d ih =>
    have h1 := ih (fun u hu hu2 => h u hu (by omega))
    have h2 := h (w + (d + 1)) (by omega) (by omega)
    have h3 := sb_mono (V := V) (W := W) hm h0 hw0 (show w + d ≤ w + (d + 1) by omega)
    unfold stp at h2
    rw [show w + (d + 1) - 1 = w + d by omega] at h2
    omega
/-- the least weight of those worth more than at w is the next step -/
theorem stp_next (hm : 0 < m) (h0 : ok 0 = true) (hw0 : W 0 = 0) {w u : Nat} (h1 : ∃ c, c < m ∧ ok c = true ∧ V (sb ok V W m w) < V c ∧ W c = u) (h2 : ∀ c, c < m → ok c = true → V (sb ok V W m w) < V c → u ≤ W c) : w < u ∧ stp ok V W m u ∧ ∀ x, w < x → x < u → ¬ stp ok V W m x := by
  obtain ⟨c, c1, c2, c3, c4⟩ := h1
  have hw := sb_opt (V := V) (w := w) hm h0 hw0
  have hu := sb_opt (V := V) (w := u) hm h0 hw0
  have hlt : w < u := by
    apply Classical.byContradiction
    intro q
    have := hw.2.2 c c1 (okw_t.mpr ⟨c2, by omega⟩)
    omega
  have flat : ∀ x, w ≤ x → x < u → V (sb ok V W m x) = V (sb ok V W m w) := fun x hx hxu => by
    have hx1 := sb_opt (V := V) (w := x) hm h0 hw0
    obtain ⟨a1, a2⟩ := okw_t.mp hx1.2.1
    have hmo := sb_mono (V := V) (W := W) hm h0 hw0 hx
    apply Classical.byContradiction
    intro q
    have := h2 _ hx1.1 a1 (by omega)
    omega
  refine ⟨hlt, Or.inr ?_, fun x hx hxu hs => ?_⟩
  · rw [flat (u - 1) (by omega) (by omega)]
    have := hu.2.2 c c1 (okw_t.mpr ⟨c2, by omega⟩)
    omega
  · rcases hs with hs | hs
    · omega
    · rw [flat (x - 1) (by omega) (by omega), flat x (by omega) hxu] at hs
      omega
/-- none is worth more: no further step -/
theorem stp_end (hm : 0 < m) (h0 : ok 0 = true) (hw0 : W 0 = 0) {w T : Nat} (h2 : ∀ c, c < m → ok c = true → V (sb ok V W m w) < V c → T < W c) : ∀ x, w < x → x ≤ T → ¬ stp ok V W m x := by
  intro x hx hxT hs
  have hx1 := sb_opt (V := V) (w := x) hm h0 hw0
  obtain ⟨a1, a2⟩ := okw_t.mp hx1.2.1
  have hmo := sb_mono (V := V) (W := W) hm h0 hw0 (show w ≤ x - 1 by omega)
  rcases hs with hs | hs
  · omega
  · have := h2 _ hx1.1 a1 (by omega)
    omega
end SB
theorem cntp_step {p : Nat → Prop} {a b : Nat} (hab : a < b) (ha : p a) (hn : ∀ x, a < x → x < b → ¬ p x) : cntp p b = cntp p a + 1 := by
  have key : ∀ d, a + 1 + d ≤ b → cntp p (a + 1 + d) = cntp p a + 1 := by
    intro d
    induction d with
    | zero =>
      intro _
      show cntp p a + _ = _
      rw [if_pos (pB_t.mpr ha)]
    | succ d ih =>
      intro hd
      show cntp p (a + 1 + d) + (if pB (p (a + 1 + d)) = true then 1 else 0) = _
      rw [if_neg (fun z => hn (a + 1 + d) (by omega) (by omega) (pB_t.mp z)), ih (by omega)]
  have := key (b - (a + 1)) (by omega)
  rw [show a + 1 + (b - (a + 1)) = b by omega] at this
  exact this
theorem cntp_inj {p : Nat → Prop} {a b : Nat} (ha : p a) (hb : p b) (h : cntp p a = cntp p b) : a = b := by
  have mono : ∀ x y, x ≤ y → cntp p x ≤ cntp p y := by
    intro x y hxy
    induction y with
    | zero => rw [show x = 0 by omega]; exact Nat.le_refl _
    | succ y ih =>
      by_cases e : x = y + 1
      · rw [e]; exact Nat.le_refl _
      · have := ih (by omega)
        show _ ≤ cntp p y + _
        omega
  have lt : ∀ x y, x < y → p x → cntp p x < cntp p y := fun x y hxy hx => by
    have h1 : cntp p (x + 1) = cntp p x + 1 := by
      show cntp p x + _ = _
      rw [if_pos (pB_t.mpr hx)]
    have h2 := mono (x + 1) y hxy
    omega
  rcases Nat.lt_trichotomy a b with q | q | q
  · have := lt a b q ha
    omega
  · exact q
  · have := lt b a q hb
    omega
theorem cntp_mon {p : Nat → Prop} {x y : Nat} (hxy : x ≤ y) : cntp p x ≤ cntp p y := by
  induction y with
  | zero => rw [show x = 0 by omega]; exact Nat.le_refl _
  | succ y ih =>
    by_cases e : x = y + 1
    · rw [e]; exact Nat.le_refl _
    · have := ih (by omega)
      show _ ≤ cntp p y + _
      omega
theorem cntp_up {p : Nat → Prop} {x y : Nat} (hx : p x) (hxy : x < y) : cntp p x < cntp p y := by
  have h1 : cntp p (x + 1) = cntp p x + 1 := by
    show cntp p x + _ = _
    rw [if_pos (pB_t.mpr hx)]
  have h2 := cntp_mon (p := p) (show x + 1 ≤ y from hxy)
  omega
/-- the i-th one -/
theorem cntp_get {p : Nat → Prop} {i : Nat} : ∀ {N : Nat}, i < cntp p N → ∃ u, u < N ∧ p u ∧ cntp p u = i
  | 0, h => by
    have : cntp p 0 = 0 := rfl
    omega
  | N + 1, h => by
    by_cases q : i < cntp p N
    · obtain ⟨u, u1, u2⟩ := cntp_get q
      exact ⟨u, by omega, u2⟩
    · by_cases z : p N
      · have h1 : cntp p (N + 1) = cntp p N + 1 := by
          show cntp p N + _ = _
          rw [if_pos (pB_t.mpr z)]
        exact ⟨N, by omega, z, by omega⟩
      · have h1 : cntp p (N + 1) = cntp p N := by
          show cntp p N + _ = _
          rw [if_neg (fun y => z (pB_t.mp y)), Nat.add_zero]
        omega
