/-! ANSWERS, 10: texts -/
def sbind {α β : Type} : Nat ⊕ α → (α → Nat ⊕ β) → Nat ⊕ β
  | .inl e, _ => .inl e
  | .inr a, f => f a
def isD (c : Nat) : Prop := 48 ≤ c ∧ c ≤ 57
/-- a number from pos on; the fault is at pos -/
noncomputable def rN (t : Nat → Nat) (least pos : Nat) : Nat ⊕ (Nat × Nat) :=
  if pB (48 + least ≤ t pos ∧ t pos ≤ 57) = true then
    (if pB (0 < t pos - 48 ∧ isD (t (pos + 1))) = true then
      (if pB (isD (t (pos + 2))) = true then .inr (10 * (10 * (t pos - 48) + (t (pos + 1) - 48)) + (t (pos + 2) - 48), pos + 3) else .inr (10 * (t pos - 48) + (t (pos + 1) - 48), pos + 2))
     else .inr (t pos - 48, pos + 1))
  else .inl pos
noncomputable def rO (t : Nat → Nat) (ch pos : Nat) : Nat ⊕ (Nat × Nat) := if t pos = ch then rN t 0 (pos + 1) else .inr (0, pos)
noncomputable def rGr (t : Nat → Nat) (pos : Nat) : Nat ⊕ (Nat × Nat) := if t pos = 64 then (if pB (48 ≤ t (pos + 1) ∧ t (pos + 1) ≤ 51) = true then .inr (t (pos + 1) - 48, pos + 2) else .inl (pos + 1)) else .inr (4, pos)
abbrev rs_I : Type := Nat × Nat × Nat × Nat × Nat
noncomputable def rI (t : Nat → Nat) (pos : Nat) : Nat ⊕ (rs_I × Nat) := sbind (rN t 1 pos) fun a => if t a.2 = 47 then sbind (rN t 1 (a.2 + 1)) fun b => sbind (rO t 43 b.2) fun c => sbind (rO t 45 c.2) fun d => sbind (rGr t d.2) fun e => .inr ((a.1, b.1, c.1, d.1, e.1), e.2) else .inl a.2
noncomputable def rP (t : Nat → Nat) (len : Nat) : Nat → Nat → List rs_I → Nat ⊕ List rs_I
  | 0, pos, _ => .inl pos
  | f + 1, pos, acc => sbind (rI t pos) fun r => if r.2 = len then .inr (acc ++ [r.1]) else if t r.2 = 59 then rP t len f (r.2 + 1) (acc ++ [r.1]) else .inl r.2
/-- the text as a function: 0 behind its end -/
def tx (pd : List Nat) (i : Nat) : Nat := pd.getD i 0
noncomputable def parse (pd : List Nat) : Nat ⊕ List rs_I := rP (tx pd) pd.length 20 0 []
theorem tx_end {pd : List Nat} {i : Nat} (h : tx pd i ≠ 0) : i < pd.length := by
  apply Classical.byContradiction
  intro q
  exact h (by unfold tx; rw [List.getD_eq_getElem?_getD, List.getElem?_eq_none (by omega)]; rfl)
theorem rN_inr {t : Nat → Nat} {least pos v p : Nat} (h : rN t least pos = .inr (v, p)) : least ≤ v ∧ v ≤ 999 ∧ pos < p ∧ p ≤ pos + 3 ∧ (∀ i, pos ≤ i → i < p → t i ≠ 0) := by
  unfold rN at h
  split at h
  · next q1 =>
    have q1 := pB_t.mp q1
    split at h
    · next q2 =>
      have q2 := pB_t.mp q2
      unfold isD at q2
      split at h
      · next q3 =>
        have q3 := pB_t.mp q3
        unfold isD at q3
        cases h
        refine ⟨by omega, by omega, by omega, by omega, fun i h1 h2 => ?_⟩
        by_cases e : i = pos
        · subst e
          omega
        · by_cases e2 : i = pos + 1
          · subst e2
            omega
          · have e3 : i = pos + 2 := by omega
            subst e3
            omega
      · cases h
        refine ⟨by omega, by omega, by omega, by omega, fun i h1 h2 => ?_⟩
        by_cases e : i = pos
        · subst e
          omega
        · have e2 : i = pos + 1 := by omega
          subst e2
          omega
    · cases h
      refine ⟨by omega, by omega, by omega, by omega, fun i h1 h2 => ?_⟩
      have e : i = pos := by omega
      subst e
      omega
  · cases h
theorem rN_inl {t : Nat → Nat} {least pos e : Nat} (h : rN t least pos = .inl e) : e = pos := by
  unfold rN at h
  split at h
  · split at h
    · split at h <;> cases h
    · cases h
  · cases h
    rfl
theorem rO_inr {t : Nat → Nat} {ch pos v p : Nat} (hch : ch ≠ 0) (h : rO t ch pos = .inr (v, p)) : v ≤ 999 ∧ pos ≤ p ∧ (∀ i, pos ≤ i → i < p → t i ≠ 0) := by
  unfold rO at h
  split at h
  · next q =>
    obtain ⟨h1, h2, h3, h4, h5⟩ := rN_inr h
    refine ⟨h2, by omega, fun i h6 h7 => ?_⟩
    by_cases e : i = pos
    · subst e
      omega
    · exact h5 i (by omega) h7
  · cases h
    exact ⟨by omega, Nat.le_refl _, fun i h6 h7 => by omega⟩
theorem rGr_inr {t : Nat → Nat} {pos v p : Nat} (h : rGr t pos = .inr (v, p)) : v ≤ 4 ∧ pos ≤ p ∧ (∀ i, pos ≤ i → i < p → t i ≠ 0) := by
  unfold rGr at h
  split at h
  · next q =>
    split at h
    · next q2 =>
      have q2 := pB_t.mp q2
      cases h
      refine ⟨by omega, by omega, fun i h6 h7 => ?_⟩
      by_cases e : i = pos
      · subst e
        omega
      · have e2 : i = pos + 1 := by omega
        subst e2
        omega
    · cases h
  · cases h
    exact ⟨by omega, Nat.le_refl _, fun i h6 h7 => by omega⟩
def itOk (r : rs_I) : Prop := (1 ≤ r.1 ∧ r.1 ≤ 999) ∧ (1 ≤ r.2.1 ∧ r.2.1 ≤ 999) ∧ r.2.2.1 ≤ 999 ∧ r.2.2.2.1 ≤ 999 ∧ r.2.2.2.2 ≤ 4
theorem rI_inr {t : Nat → Nat} {pos p : Nat} {r : rs_I} (h : rI t pos = .inr (r, p)) : itOk r ∧ pos + 3 ≤ p ∧ (∀ i, pos ≤ i → i < p → t i ≠ 0) := by
  unfold rI at h
  cases h1 : rN t 1 pos with
  | inl e => rw [h1] at h; cases h
  | inr a =>
    obtain ⟨a1, a2⟩ := a
    rw [h1] at h
    have h : (if t a2 = 47 then sbind (rN t 1 (a2 + 1)) fun b => sbind (rO t 43 b.2) fun c => sbind (rO t 45 c.2) fun d => sbind (rGr t d.2) fun e => Sum.inr ((a1, b.1, c.1, d.1, e.1), e.2) else Sum.inl a2) = Sum.inr (r, p) := h
    split at h
    · next q =>
      cases h2 : rN t 1 (a2 + 1) with
      | inl e => rw [h2] at h; cases h
      | inr b =>
        obtain ⟨b1, b2⟩ := b
        rw [h2] at h
        have h : (sbind (rO t 43 b2) fun c => sbind (rO t 45 c.2) fun d => sbind (rGr t d.2) fun e => (Sum.inr ((a1, b1, c.1, d.1, e.1), e.2) : Nat ⊕ (rs_I × Nat))) = Sum.inr (r, p) := h
        cases h3 : rO t 43 b2 with
        | inl e => rw [h3] at h; cases h
        | inr c =>
          obtain ⟨c1, c2⟩ := c
          rw [h3] at h
          have h : (sbind (rO t 45 c2) fun d => sbind (rGr t d.2) fun e => (Sum.inr ((a1, b1, c1, d.1, e.1), e.2) : Nat ⊕ (rs_I × Nat))) = Sum.inr (r, p) := h
          cases h4 : rO t 45 c2 with
          | inl e => rw [h4] at h; cases h
          | inr d =>
            obtain ⟨d1, d2⟩ := d
            rw [h4] at h
            have h : (sbind (rGr t d2) fun e => (Sum.inr ((a1, b1, c1, d1, e.1), e.2) : Nat ⊕ (rs_I × Nat))) = Sum.inr (r, p) := h
            cases h5 : rGr t d2 with
            | inl e => rw [h5] at h; cases h
            | inr e =>
              obtain ⟨e1, e2⟩ := e
              rw [h5] at h
              have h : (Sum.inr ((a1, b1, c1, d1, e1), e2) : Nat ⊕ (rs_I × Nat)) = Sum.inr (r, p) := h
              cases h
              obtain ⟨k1, k2, k3, k4, k5⟩ := rN_inr h1
              obtain ⟨l1, l2, l3, l4, l5⟩ := rN_inr h2
              obtain ⟨m1, m2, m3⟩ := rO_inr (by decide) h3
              obtain ⟨n1, n2, n3⟩ := rO_inr (by decide) h4
              obtain ⟨o1, o2, o3⟩ := rGr_inr h5
              refine ⟨⟨⟨k1, k2⟩, ⟨l1, l2⟩, m1, n1, o1⟩, by omega, fun i i1 i2 => ?_⟩
              by_cases z1 : i < a2
              · exact k5 i i1 z1
              · by_cases z2 : i = a2
                · subst z2
                  omega
                · by_cases z3 : i < b2
                  · exact l5 i (by omega) z3
                  · by_cases z4 : i < c2
                    · exact m3 i (by omega) z4
                    · by_cases z5 : i < d2
                      · exact n3 i (by omega) z5
                      · exact o3 i (by omega) i2
    · cases h
theorem rI_len {pd : List Nat} {pos p : Nat} {r : rs_I} (h : rI (tx pd) pos = .inr (r, p)) : p ≤ pd.length := by
  obtain ⟨-, h2, h3⟩ := rI_inr h
  have := tx_end (h3 (p - 1) (by omega) (by omega))
  omega
theorem rI_end {pd : List Nat} : rI (tx pd) pd.length = .inl pd.length := by
  have e : tx pd pd.length = 0 := by
    apply Classical.byContradiction
    intro q
    have := tx_end q
    omega
  unfold rI rN
  rw [e, if_neg (fun q => by have := pB_t.mp q; omega)]
  rfl
theorem rP_ok {t : Nat → Nat} {len : Nat} : ∀ (f pos : Nat) (acc L : List rs_I), (∀ r ∈ acc, itOk r) → rP t len f pos acc = .inr L → ∀ r ∈ L, itOk r
  | 0, pos, acc, L, _, h => by cases h
  | f + 1, pos, acc, L, ha, h => by
    unfold rP at h
    cases h1 : rI t pos with
    | inl e => rw [h1] at h; cases h
    | inr a =>
      obtain ⟨r, p⟩ := a
      rw [h1] at h
      have h : (if p = len then (Sum.inr (acc ++ [r]) : Nat ⊕ List rs_I) else if t p = 59 then rP t len f (p + 1) (acc ++ [r]) else Sum.inl p) = Sum.inr L := h
      have ha2 : ∀ r' ∈ acc ++ [r], itOk r' := fun r' hr' => by
        rcases List.mem_append.mp hr' with q | q
        · exact ha r' q
        · rw [List.mem_singleton.mp q]
          exact (rI_inr h1).1
      split at h
      · cases h
        exact ha2
      · split at h
        · exact rP_ok f (p + 1) (acc ++ [r]) L ha2 h
        · cases h
theorem parse_ok {pd : List Nat} {L : List rs_I} (h : parse pd = .inr L) : ∀ r ∈ L, itOk r := rP_ok 20 0 [] L (fun r hr => by cases hr) h
/-- items added one behind another -/
def zadds (S : rs_S) : List rs_I → rs_S
  | [] => S
  | r :: l => zadds (zadd S r.1 r.2.1 r.2.2.1 r.2.2.2.1 r.2.2.2.2) l
theorem zadds_n (S : rs_S) (L : List rs_I) : zn (zadds S L) = zn S + L.length := by
  induction L generalizing S with
  | nil => rfl
  | cons r l ih =>
    show zn (zadds (zadd S r.1 r.2.1 r.2.2.1 r.2.2.2.1 r.2.2.2.2) l) = _
    rw [ih]
    show zn S + 1 + l.length = zn S + (l.length + 1)
    omega
theorem zadds_Wf {S : rs_S} (hw : Wf S) {L : List rs_I} (hL : ∀ r ∈ L, itOk r) (hn : zn S + L.length ≤ 12) : Wf (zadds S L) := by
  induction L generalizing S with
  | nil => exact hw
  | cons r l ih =>
    have hn : zn S + (l.length + 1) ≤ 12 := hn
    obtain ⟨a1, a2, a3, a4, a5⟩ := hL r List.mem_cons_self
    exact ih (zadd_Wf hw (by omega) a1 a2 a3 a4 a5) (fun r' hr' => hL r' (List.mem_cons_of_mem _ hr')) (by show zn S + 1 + l.length ≤ 12; omega)
noncomputable def a_fault (pd : List Nat) : Int32 := match parse pd with
  | .inl e => nI e
  | .inr _ => (-6)
noncomputable def a_load (g : rs_G) : Int32 := match parse g.2.2 with
  | .inl _ => (-3)
  | .inr L => if zn g.1 + L.length ≤ 12 then nI L.length else (-4)
noncomputable def g_load (g : rs_G) : rs_G := match parse g.2.2 with
  | .inl _ => g
  | .inr L => if zn g.1 + L.length ≤ 12 then (zadds g.1 L, hpush g.2.1 g.1, []) else g
theorem g_load_WG {g : rs_G} (h : WG g) : WG (g_load g) := by
  unfold g_load
  cases q : parse g.2.2 with
  | inl e => exact h
  | inr L =>
    show WG (if zn g.1 + L.length ≤ 12 then (zadds g.1 L, hpush g.2.1 g.1, []) else g)
    split
    · next hn => exact ⟨zadds_Wf h.1 (parse_ok q) hn, hpush_len12 _ h.2.1, hpush_wf h.1 h.2.2.1, by show 0 ≤ 80; omega, fun c hc => by cases hc⟩
    · exact h
