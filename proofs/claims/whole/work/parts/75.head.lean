/-! HEADROOM: what a greater deviation does to the protected weights -/
theorem psum_cg {f f' : Nat → Nat} {a : Nat} : ∀ m, (∀ j, j < m → a.testBit j = true → f j = f' j) → psum f a m = psum f' a m
  | 0, _ => rfl
  | m + 1, h => by
    show psum f a m + (if a.testBit m then f m else 0) = psum f' a m + (if a.testBit m then f' m else 0)
    rw [psum_cg m (fun j hj => h j (by omega))]
    by_cases q : a.testBit m = true
    · rw [if_pos q, if_pos q, h m (by omega) q]
    · rw [if_neg q, if_neg q]
def chd (f : Nat → Nat) (i d : Nat) : Nat → Nat := fun j => if j = i then f i + d else f j
theorem chd_i (f : Nat → Nat) (i d : Nat) : chd f i d i = f i + d := if_pos rfl
theorem chd_o {f : Nat → Nat} {i d j : Nat} (h : j ≠ i) : chd f i d j = f j := if_neg h
/-- without the item, or without a budget, nothing changes -/
theorem top_const {f : Nat → Nat} {i d c n g : Nat} (h : c.testBit i = false ∨ g = 0) : psum (chd f i d) (wst (chd f i d) c n g) n = psum f (wst f c n g) n := by
  rcases h with h | h
  · have no : ∀ {s : Nat}, (∀ j, s.testBit j = true → c.testBit j = true) → psum (chd f i d) s n = psum f s n := fun {s} hs => psum_cg n (fun j _ hb => chd_o (fun e => by
      have := hs j hb
      rw [e, h] at this
      cases this))
    apply Nat.le_antisymm
    · rw [no (fun j hb => wst_in hb)]
      exact wst_best g _ (fun j _ hb => wst_in hb) (wst_size g)
    · rw [← no (fun j hb => wst_in hb)]
      exact wst_best g _ (fun j _ hb => wst_in hb) (wst_size g)
  · subst h
    show psum (chd f i d) 0 n = psum f 0 n
    rw [psum0, psum0]
theorem top_max {f : Nat → Nat} {i c n g : Nat} (hi : i < n) (hc : c.testBit i = true) : ∃ a b, ∀ d, psum (chd f i d) (wst (chd f i d) c n (g + 1)) n = max a (b + d) := by
  refine ⟨psum f (wst f (zdf c (2 ^ i)) n (g + 1)) n, psum f (wst f (zdf c (2 ^ i)) n g) n + f i, fun d => ?_⟩
  have ic : ∀ {j}, (zdf c (2 ^ i)).testBit j = true → c.testBit j = true ∧ j ≠ i := fun {j} h => by
    rw [zdf_bit, Nat.testBit_two_pow] at h
    by_cases e : i = j
    · simp [e] at h
    · refine ⟨?_, fun z => e z.symm⟩
      simp [e] at h
      exact h
  have ci : ∀ {j}, c.testBit j = true → j ≠ i → (zdf c (2 ^ i)).testBit j = true := fun {j} h e => by
    rw [zdf_bit, Nat.testBit_two_pow, h]
    simp [Ne.symm e]
  have no : ∀ {s : Nat}, (∀ j, s.testBit j = true → j ≠ i) → psum (chd f i d) s n = psum f s n := fun {s} hs => psum_cg n (fun j _ hb => chd_o (hs j hb))
  apply Nat.le_antisymm
  · have sz := wst_size (f := chd f i d) (c := c) (m := n) (g + 1)
    by_cases q : (wst (chd f i d) c n (g + 1)).testBit i = true
    · have e1 := psum_out (f := chd f i d) hi q
      have e2 := psum_out (f := fun _ => 1) hi q
      have sub : ∀ j, (zdf (wst (chd f i d) c n (g + 1)) (2 ^ i)).testBit j = true → (wst (chd f i d) c n (g + 1)).testBit j = true ∧ j ≠ i := fun j h => by
        rw [zdf_bit, Nat.testBit_two_pow] at h
        by_cases e : i = j
        · simp [e] at h
        · refine ⟨?_, fun z => e z.symm⟩
          simp [e] at h
          exact h
      rw [no (fun j hb => (sub j hb).2), chd_i] at e1
      have := wst_best (f := f) (c := zdf c (2 ^ i)) (m := n) g _ (fun j _ hb => ci (wst_in (sub j hb).1) (sub j hb).2) (by omega)
      omega
    · have e1 : psum (chd f i d) (wst (chd f i d) c n (g + 1)) n = psum f (wst (chd f i d) c n (g + 1)) n := no (fun j hb e => q (by rw [e] at hb; exact hb))
      have := wst_best (f := f) (c := zdf c (2 ^ i)) (m := n) (g + 1) (wst (chd f i d) c n (g + 1)) (fun j _ hb => ci (wst_in hb) (fun e => q (by rw [e] at hb; exact hb))) sz
      omega
  · have s1 := wst_size (f := f) (c := zdf c (2 ^ i)) (m := n) (g + 1)
    have s2 := wst_size (f := f) (c := zdf c (2 ^ i)) (m := n) g
    have b1 := wst_best (f := chd f i d) (c := c) (m := n) (g + 1) (wst f (zdf c (2 ^ i)) n (g + 1)) (fun j _ hb => (ic (wst_in hb)).1) s1
    rw [no (fun j hb => (ic (wst_in hb)).2)] at b1
    have hb0 : (wst f (zdf c (2 ^ i)) n g).testBit i = false := by
      cases q : (wst f (zdf c (2 ^ i)) n g).testBit i with
      | false => rfl
      | true => exact absurd rfl (ic (wst_in q)).2
    have o1 := psum_or (f := chd f i d) hi hb0
    have o2 := psum_or (f := fun _ => 1) hi hb0
    have b2 := wst_best (f := chd f i d) (c := c) (m := n) (g + 1) (wst f (zdf c (2 ^ i)) n g ||| 2 ^ i) (fun j _ hb => by
      rw [Nat.testBit_or, Nat.testBit_two_pow] at hb
      by_cases e : i = j
      · rw [← e]
        exact hc
      · simp [e] at hb
        exact (ic (wst_in hb)).1) (by omega)
    rw [o1, no (fun j hb => (ic (wst_in hb)).2), chd_i] at b2
    omega
def Wd (S : rs_S) (i d c : Nat) : Nat := zheavy (zset S 2 i (zp S 2 i + d)) c (zg S)
theorem Wd_eq (S : rs_S) (i d c : Nat) : Wd S i d c = psum (zp S 1) c (zn S) + psum (chd (zp S 2) i d) (wst (chd (zp S 2) i d) c (zn S) (zg S)) (zn S) := by
  have e1 : zp (zset S 2 i (zp S 2 i + d)) 1 = zp S 1 := by
    funext j
    rw [zset_p, if_neg (by omega)]
  have e2 : zp (zset S 2 i (zp S 2 i + d)) 2 = chd (zp S 2) i d := by
    funext j
    rw [zset_p]
    unfold chd
    by_cases q : j = i
    · rw [if_pos ⟨rfl, q⟩, if_pos q]
    · rw [if_neg (fun z => q z.2), if_neg q]
  unfold Wd zheavy zsum zworst
  rw [e1, e2, zset_n]
theorem zset_self (S : rs_S) (i : Nat) : zset S 2 i (zp S 2 i + 0) = S := by
  have e : (fun q j => if q = 2 ∧ j = i then zp S 2 i + 0 else zp S q j) = S.2.1 := by
    funext q j
    by_cases z : q = 2 ∧ j = i
    · rw [if_pos z, z.1, z.2]
      rfl
    · rw [if_neg z]
      rfl
  unfold zset
  rw [e]
theorem Wd_0 (S : rs_S) (i c : Nat) : Wd S i 0 c = zheavy S c (zg S) := by
  unfold Wd
  rw [zset_self]
/-- a protected weight as a function of the increase -/
theorem Wd_form {S : rs_S} {i : Nat} (hi : i < zn S) (c : Nat) : (∀ d, Wd S i d c = Wd S i 0 c) ∨ (c.testBit i = true ∧ ∃ a b, ∀ d, Wd S i d c = max a (b + d)) := by
  by_cases h : c.testBit i = false ∨ zg S = 0
  · left
    intro d
    rw [Wd_eq, Wd_eq, top_const h, top_const h]
  · right
    have hc : c.testBit i = true := by
      cases q : c.testBit i with
      | true => rfl
      | false => exact absurd (Or.inl q) h
    obtain ⟨g, eg⟩ : ∃ g, zg S = g + 1 := ⟨zg S - 1, by have : zg S ≠ 0 := fun z => h (Or.inr z); omega⟩
    obtain ⟨a, b, hab⟩ := top_max (f := zp S 2) (g := g) hi hc
    refine ⟨hc, psum (zp S 1) c (zn S) + a, psum (zp S 1) c (zn S) + b, fun d => ?_⟩
    rw [Wd_eq, eg, hab d]
    omega
theorem Wd_const_all {S : rs_S} (h : zg S = 0) (i d c : Nat) : Wd S i d c = Wd S i 0 c := by
  rw [Wd_eq, Wd_eq, top_const (Or.inr h), top_const (Or.inr h)]
theorem Wd_mono {S : rs_S} {i : Nat} (hi : i < zn S) (c : Nat) {d e : Nat} (h : d ≤ e) : Wd S i d c ≤ Wd S i e c := by
  rcases Wd_form hi c with q | ⟨-, a, b, q⟩
  · rw [q d, q e]
    exact Nat.le_refl _
  · rw [q d, q e]
    omega
def hZ (S : rs_S) (i best d : Nat) : Prop := zstay S (zset S 2 i (zp S 2 i + d)) best
theorem hZ_eq {S : rs_S} {i best d : Nat} : hZ S i best d ↔ Wd S i d best ≤ zc S ∧ ∀ c, c < 2 ^ zn S → c ≠ best → zalB S c = true → zworth S c (zh S) = zworth S best (zh S) → ¬ (Wd S i d c < Wd S i d best ∨ (Wd S i d c = Wd S i d best ∧ c < best)) := Iff.rfl
theorem best_opt (S : rs_S) : isOpt (zfit S (zg S) (zc S)) (fun c => zworth S c (zh S)) (fun c => zheavy S c (zg S)) (2 ^ zn S) (zbest S (zg S) (zh S) (zc S)) := by
  obtain ⟨b, hb, e⟩ := zbestO_some S (zg S) (zh S) (zc S) (Nat.two_pow_pos (zn S))
  have : zbest S (zg S) (zh S) (zc S) = b := by
    unfold zbest
    rw [e]
    rfl
  rw [this]
  exact bst_opt _ _ e
/-- once another one has come ahead, it stays so -/
theorem hZ_anti {S : rs_S} {i : Nat} (hi : i < zn S) (hb : (zbest S (zg S) (zh S) (zc S)).testBit i = true) {d e : Nat} (hde : d ≤ e) (h : hZ S i (zbest S (zg S) (zh S) (zc S)) e) : hZ S i (zbest S (zg S) (zh S) (zc S)) d := by
  have opt := best_opt S
  generalize zbest S (zg S) (zh S) (zc S) = best at *
  obtain ⟨o1, o2, o3⟩ := opt
  rw [hZ_eq] at h ⊢
  obtain ⟨h1, h2⟩ := h
  refine ⟨Nat.le_trans (Wd_mono hi best hde) h1, fun c hc hne hal hv hbe => ?_⟩
  have h3 := h2 c hc hne hal hv
  -- at 0 best is ahead of c, where c fits
  have m1 := Wd_mono hi best hde
  have m2 := Wd_mono hi best (Nat.zero_le d)
  have m3 := Wd_mono hi c (Nat.zero_le d)
  have h0 : Wd S i 0 best < Wd S i 0 c ∨ (Wd S i 0 best = Wd S i 0 c ∧ best ≤ c) := by
    by_cases fit : Wd S i 0 c ≤ zc S
    · have ok : zfit S (zg S) (zc S) c = true := zfit_t.mpr ⟨hal, by rw [← Wd_0 S i c]; exact fit⟩
      rcases o3 c hc ok with z | z
      · have z : zworth S c (zh S) < zworth S best (zh S) := z
        omega
      · have z2 := z.2
        rw [Wd_0, Wd_0]
        exact z2
    · have := (zfit_t.mp o2).2
      rw [← Wd_0 S i best] at this
      omega
  rcases Wd_form hi best with q | ⟨-, a, b, q⟩
  · rcases Wd_form hi c with r | ⟨-, a', b', r⟩
    · rw [q d, r d] at hbe
      omega
    · have g0 : zg S ≠ 0 ∨ zg S = 0 := by omega
      rw [q d] at hbe m1 m2
      rw [q e] at h3 m1
      have := Wd_mono hi c hde
      omega
  · rcases Wd_form hi c with r | ⟨-, a', b', r⟩
    · rw [r d] at hbe
      rw [r e] at h3
      omega
    · have q0 := q 0
      have qd := q d
      have qe := q e
      have r0 := r 0
      have rd := r d
      have re := r e
      omega
theorem hlin_spec {Z : Nat → Prop} : ∀ f d, d ≤ hlin Z f d ∧ hlin Z f d ≤ d + f ∧ (∀ e, d < e → e ≤ hlin Z f d → Z e) ∧ (hlin Z f d < d + f → ¬ Z (hlin Z f d + 1))
  | 0, d => ⟨Nat.le_refl _, Nat.le_refl _, fun e h1 (h2 : e ≤ d) => absurd h2 (by omega), fun (h : d < d + 0) => absurd h (by omega)⟩
  | f + 1, d => by
    by_cases q : Z (d + 1)
    · have e0 : hlin Z (f + 1) d = hlin Z f (d + 1) := if_pos (pB_t.mpr q)
      obtain ⟨h1, h2, h3, h4⟩ := hlin_spec (Z := Z) f (d + 1)
      rw [e0]
      refine ⟨by omega, by omega, fun e e1 e2 => ?_, fun z => h4 (by omega)⟩
      by_cases y : e = d + 1
      · rw [y]
        exact q
      · exact h3 e (by omega) e2
    · have e0 : hlin Z (f + 1) d = d := if_neg (fun z => q (pB_t.mp z))
      rw [e0]
      exact ⟨Nat.le_refl _, by omega, fun e e1 e2 => absurd e2 (by omega), fun _ => q⟩
/-- best after an increase, and staying best -/
theorem stays_iff {S : rs_S} {i : Nat} (hi : i < zn S) (d : Nat) : (bst (fun c => zalB S c && decide (Wd S i d c ≤ zc S)) (fun c => zworth S c (zh S)) (Wd S i d) (2 ^ zn S)).getD 0 = zbest S (zg S) (zh S) (zc S) ↔ hZ S i (zbest S (zg S) (zh S) (zc S)) d := by
  have opt := best_opt S
  generalize zbest S (zg S) (zh S) (zc S) = best at *
  obtain ⟨o1, o2, o3⟩ := opt
  have w0 : Wd S i d 0 = 0 := by
    unfold Wd
    exact zheavy0 _ _
  have ok0 : (fun c => zalB S c && decide (Wd S i d c ≤ zc S)) 0 = true := by
    show (zalB S 0 && decide (Wd S i d 0 ≤ zc S)) = true
    rw [zal0, w0, decide_eq_true (Nat.zero_le _)]
    rfl
  obtain ⟨b, hb⟩ := bst_some (ok := fun c => zalB S c && decide (Wd S i d c ≤ zc S)) (V := fun c => zworth S c (zh S)) (W := Wd S i d) ok0 (2 ^ zn S) (Nat.two_pow_pos _)
  rw [hb]
  show b = best ↔ _
  have okt : ∀ c, (zalB S c && decide (Wd S i d c ≤ zc S)) = true ↔ zalB S c = true ∧ Wd S i d c ≤ zc S := fun c => by rw [Bool.and_eq_true, decide_eq_true_eq]
  have al := (zfit_t.mp o2).1
  rw [hZ_eq]
  constructor
  · intro e
    obtain ⟨p1, p2, p3⟩ := bst_opt _ _ hb
    rw [e] at p2 p3
    have fb := ((okt best).mp p2).2
    refine ⟨fb, fun c hc hne hal hv hbe => ?_⟩
    by_cases fit : Wd S i d c ≤ zc S
    · rcases p3 c hc ((okt c).mpr ⟨hal, fit⟩) with z | z
      · have z : zworth S c (zh S) < zworth S best (zh S) := z
        omega
      · omega
    · omega
  · rintro ⟨h1, h2⟩
    have : isOpt (fun c => zalB S c && decide (Wd S i d c ≤ zc S)) (fun c => zworth S c (zh S)) (Wd S i d) (2 ^ zn S) best := by
      refine ⟨o1, (okt best).mpr ⟨al, h1⟩, fun c hc hok => ?_⟩
      obtain ⟨hal, fit⟩ := (okt c).mp hok
      have m := Wd_mono hi c (Nat.zero_le d)
      rw [Wd_0] at m
      by_cases ne : c = best
      · right
        rw [ne]
        exact ⟨rfl, Or.inr ⟨rfl, Nat.le_refl _⟩⟩
      · rcases o3 c hc (zfit_t.mpr ⟨hal, by omega⟩) with z | z
        · exact Or.inl z
        · have hv : zworth S c (zh S) = zworth S best (zh S) := z.1
          have := h2 c hc ne hal hv
          right
          refine ⟨z.1, ?_⟩
          omega
    exact isOpt_uniq (bst_opt _ _ hb) this
