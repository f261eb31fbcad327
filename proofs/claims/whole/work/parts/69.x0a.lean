/-! THE CLASS, 9: rows of sums; the order of the changes -/
theorem orp {i j : Nat} (h : j < 2 ^ i) : 2 ^ i ||| j = 2 ^ i + j := by
  have := Nat.two_pow_add_eq_or_of_lt h 1
  rw [Nat.mul_one] at this
  exact this.symm
theorem psum_top {f : Nat → Nat} {i j : Nat} (h : j < 2 ^ i) : psum f (2 ^ i + j) (i + 1) = psum f j i + f i := by
  rw [← orp h, Nat.or_comm, psum_or (by omega) (Nat.testBit_lt_two_pow h)]
  have := psum_hi (f := f) h 1
  rw [this]
theorem d_sumUp (E : rp_E) {M : rp_M} {r0 r1 n : Nat} (h0 : r0 < 170) (s0 : rp_sh r0 = (0, 4096, [])) (h1 : r1 < 170) (s1 : rp_sh r1 = (0, 12, [])) (hne : r1 ≠ r0) (hn : n ≤ 12) (f : Nat → Nat) (hf : ∀ k, k < n → M r1 k = nI (f k)) : rp_Run E YX5_sumUp [.ref r0, .ref r1, .int (nI n)] M (rp_P0 (fun M' => (∀ c, c < 2 ^ n → M' r0 c = nI (psum f c n)) ∧ ∀ k, k ≠ r0 → M' k = M k)) := by
  have pw : ∀ i, i ≤ 12 → 2 ^ i ≤ 4096 := fun i hi => Nat.le_trans (Nat.pow_le_pow_right (by omega) hi) (by decide)
  refine vX5_sumUp E _ M h0 s0 h1 s1 _ ⟨rp_vi (by decide), fun M1 e1 => ?_⟩
  have st0 : ∀ c, c < 2 ^ 0 → M1 r0 c = nI (psum f c 0) := fun c hc => by
    have hc : c < 1 := hc
    have e0 : c = 0 := by omega
    rw [e1, e0, rp_s_at]
    rfl
  suffices key : ∀ i, i ≤ n → ∀ M2 : rp_M, (∀ c, c < 2 ^ i → M2 r0 c = nI (psum f c i)) → (∀ k, k ≠ r0 → M2 k = M k) → rp_G E YX5_sumUp (rp_P0 (fun M' => (∀ c, c < 2 ^ n → M' r0 c = nI (psum f c n)) ∧ ∀ k, k ≠ r0 → M' k = M k)) 6 [.ref r0, .ref r1, .int (nI n), .int (nI i), .null, .null] [] M2 from key 0 (Nat.zero_le _) M1 st0 (fun k hk => by rw [e1, rp_s_cell hk])
  refine up_loop (fun i hi ih M2 q1 q2 => vX5_sumUp_6 E _ M2 h0 s0 h1 s1 _ _ ?_)
  rw [nI_leI (by omega) (by omega)]
  refine ⟨fun h => ?_, fun h => ?_⟩
  · have e : i = n := by omega
    subst e
    exact ⟨rfl, q1, q2⟩
  have hi2 : i < n := by omega
  have hp := pw i (by omega)
  have hp1 := pw (i + 1) (by omega)
  have e2 : 2 ^ (i + 1) = 2 ^ i + 2 ^ i := by rw [Nat.pow_succ]; omega
  rw [nI_one_shl (by omega)]
  suffices inner : ∀ j, j ≤ 2 ^ i → ∀ M3 : rp_M, (∀ c, c < 2 ^ i → M3 r0 c = nI (psum f c i)) → (∀ c, c < j → M3 r0 (2 ^ i + c) = nI (psum f (2 ^ i + c) (i + 1))) → (∀ k, k ≠ r0 → M3 k = M k) → rp_G E YX5_sumUp (rp_P0 (fun M' => (∀ c, c < 2 ^ n → M' r0 c = nI (psum f c n)) ∧ ∀ k, k ≠ r0 → M' k = M k)) 19 [.ref r0, .ref r1, .int (nI n), .int (nI i), .int (nI (2 ^ i)), .int (nI j)] [] M3 from inner 0 (Nat.zero_le _) M2 q1 (fun c hc => absurd hc (by omega)) q2
  refine up_loop (fun j hj ihj M3 z1 z2 z3 => vX5_sumUp_19 E _ M3 h0 s0 h1 s1 _ _ _ _ ?_)
  rw [nI_leI (by omega) (by omega), nI_or]
  refine ⟨fun hle => ?_, fun hlt => ?_⟩
  · rw [nI_1]
    refine ih hi2 M3 (fun c hc => ?_) z3
    by_cases q : c < 2 ^ i
    · rw [z1 c q]
      have := psum_hi (f := f) q 1
      rw [this]
    · have := z2 (c - 2 ^ i) (by omega)
      rw [show 2 ^ i + (c - 2 ^ i) = c by omega] at this
      exact this
  · have hj2 : j < 2 ^ i := by omega
    rw [orp hj2]
    refine ⟨nI_inb (by omega) (by omega), nI_inb (by omega) (by omega), nI_inb (by omega) (by omega), fun M4 e4 => ?_⟩
    rw [nI_clamp (by omega), nI_clamp (by omega), nI_clamp (by omega), z1 j hj2, z3 r1 hne, hf i hi2, nI_add, ← psum_top hj2] at e4
    rw [nI_1]
    refine ihj hj2 M4 (fun c hc => by rw [e4, rp_s_ne (by omega)]; exact z1 c hc) (fun c hc => ?_) (fun k hk => by rw [e4, rp_s_cell hk]; exact z3 k hk)
    by_cases q : c = j
    · rw [e4, q, rp_s_at]
    · rw [e4, rp_s_ne (by omega)]
      exact z2 c (by omega)
/-- an order of 0 .. t-1, the greatest first -/
def ordr (f : Nat → Nat) (o : Nat → Nat) (t : Nat) : Prop := (∀ i, i < t → o i < t) ∧ (∀ i j, i < t → j < t → o i = o j → i = j) ∧ (∀ k, k < t → ∃ i, i < t ∧ o i = k) ∧ ∀ i j, i < j → j < t → f (o j) ≤ f (o i)
theorem ordr_ins {f o : Nat → Nat} {t p : Nat} (h : ordr f o t) (hp : p ≤ t) (h1 : ∀ i, p ≤ i → i < t → f (o i) < f t) (h2 : ∀ i, i < p → f t ≤ f (o i)) : ordr f (fun i => if i < p then o i else if i = p then t else o (i - 1)) (t + 1) := by
  obtain ⟨a1, a2, a3, a4⟩ := h
  refine ⟨fun i hi => ?_, fun i j hi hj => ?_, fun k hk => ?_, fun i j hij hj => ?_⟩
  · show (if i < p then o i else if i = p then t else o (i - 1)) < t + 1
    split
    · have := a1 i (by omega)
      omega
    · split
      · omega
      · have := a1 (i - 1) (by omega)
        omega
  · show (if i < p then o i else if i = p then t else o (i - 1)) = (if j < p then o j else if j = p then t else o (j - 1)) → i = j
    intro q
    by_cases c1 : i < p
    · rw [if_pos c1] at q
      have b1 := a1 i (by omega)
      by_cases c2 : j < p
      · rw [if_pos c2] at q
        exact a2 i j (by omega) (by omega) q
      · rw [if_neg c2] at q
        by_cases c3 : j = p
        · rw [if_pos c3] at q
          omega
        · rw [if_neg c3] at q
          have := a2 i (j - 1) (by omega) (by omega) q
          omega
    · rw [if_neg c1] at q
      by_cases c4 : i = p
      · rw [if_pos c4] at q
        by_cases c2 : j < p
        · rw [if_pos c2] at q
          have := a1 j (by omega)
          omega
        · rw [if_neg c2] at q
          by_cases c3 : j = p
          · omega
          · rw [if_neg c3] at q
            have := a1 (j - 1) (by omega)
            omega
      · rw [if_neg c4] at q
        have b1 := a1 (i - 1) (by omega)
        by_cases c2 : j < p
        · rw [if_pos c2] at q
          have := a2 (i - 1) j (by omega) (by omega) q
          omega
        · rw [if_neg c2] at q
          by_cases c3 : j = p
          · rw [if_pos c3] at q
            omega
          · rw [if_neg c3] at q
            have := a2 (i - 1) (j - 1) (by omega) (by omega) q
            omega
  · by_cases e : k = t
    · exact ⟨p, by omega, by show (if p < p then o p else if p = p then t else o (p - 1)) = k; rw [if_neg (by omega), if_pos rfl, e]⟩
    · obtain ⟨i, i1, i2⟩ := a3 k (by omega)
      by_cases c : i < p
      · exact ⟨i, by omega, by show (if i < p then o i else if i = p then t else o (i - 1)) = k; rw [if_pos c]; exact i2⟩
      · exact ⟨i + 1, by omega, by show (if i + 1 < p then o (i + 1) else if i + 1 = p then t else o (i + 1 - 1)) = k; rw [if_neg (by omega), if_neg (by omega), Nat.add_sub_cancel]; exact i2⟩
  · show f (if j < p then o j else if j = p then t else o (j - 1)) ≤ f (if i < p then o i else if i = p then t else o (i - 1))
    by_cases c2 : j < p
    · rw [if_pos c2, if_pos (by omega)]
      exact a4 i j hij (by omega)
    · rw [if_neg c2]
      by_cases c3 : j = p
      · rw [if_pos c3, if_pos (by omega)]
        exact h2 i (by omega)
      · rw [if_neg c3]
        by_cases c1 : i < p
        · rw [if_pos c1]
          exact a4 i (j - 1) (by omega) (by omega)
        · rw [if_neg c1]
          by_cases c4 : i = p
          · rw [if_pos c4]
            exact Nat.le_of_lt (h1 (j - 1) (by omega) (by omega))
          · rw [if_neg c4]
            exact a4 (i - 1) (j - 1) (by omega) (by omega)
theorem d0_sort (E : rp_E) {M : rp_M} {r n : Nat} (h0 : r < 170) (s0 : rp_sh r = (0, 12, [])) (hne : r ≠ 145) (hn : n ≤ 12) (h7 : M 139 7 = nI n) (f : Nat → Nat) (hf : ∀ k, k < n → M r k = nI (f k) ∧ f k < 2 ^ 31) : rp_Run E YX0_sortByChange [.ref 139, .ref r] M (rp_P0 (fun M' => (∃ o, ordr f o n ∧ ∀ i, i < n → M' 145 i = nI (o i)) ∧ ∀ k, k ≠ 145 → M' k = M k)) := by
  refine vX0_sortByChange E _ M h0 s0 ?_
  suffices key : ∀ t, t ≤ n → ∀ M1 : rp_M, (∃ o, ordr f o t ∧ ∀ i, i < t → M1 145 i = nI (o i)) → (∀ k, k ≠ 145 → M1 k = M k) → rp_G E YX0_sortByChange (rp_P0 (fun M' => (∃ o, ordr f o n ∧ ∀ i, i < n → M' 145 i = nI (o i)) ∧ ∀ k, k ≠ 145 → M' k = M k)) 2 [.ref 139, .ref r, .int (nI t), .null] [] M1 from key 0 (Nat.zero_le _) M ⟨fun i => i, ⟨fun i hi => absurd hi (by omega), fun i j hi => absurd hi (by omega), fun k hk => absurd hk (by omega), fun i j _ hj => absurd hj (by omega)⟩, fun i hi => absurd hi (by omega)⟩ (fun _ _ => rfl)
  refine up_loop (fun t ht ih M1 q1 q2 => vX0_sortByChange_2 E _ M1 h0 s0 _ ?_)
  rw [q2 139 (by decide), h7, nI_leI (by omega) (by omega)]
  refine ⟨fun h => ?_, fun h => ?_⟩
  · have e : t = n := by omega
    subst e
    exact ⟨rfl, q1, q2⟩
  have ht2 : t < n := by omega
  obtain ⟨o, ho, q1⟩ := q1
  have hoa := ho.1
  -- from place p down
  have down : ∀ p, p ≤ t → ∀ M2 : rp_M, (∀ i, i < p → M2 145 i = nI (o i)) → (∀ i, p ≤ i → i < t → M2 145 (i + 1) = nI (o i) ∧ f (o i) < f t) → (∀ k, k ≠ 145 → M2 k = M k) → rp_G E YX0_sortByChange (rp_P0 (fun M' => (∃ o, ordr f o n ∧ ∀ i, i < n → M' 145 i = nI (o i)) ∧ ∀ k, k ≠ 145 → M' k = M k)) 12 [.ref 139, .ref r, .int (nI t), .int (nI p)] [] M2 := by
    intro p
    induction p with
    | zero =>
      intro _ M2 z1 z2 z3
      refine vX0_sortByChange_12 E _ M2 h0 s0 _ _ ⟨fun _ => ⟨nI_inb (by omega) (by omega), fun M3 e3 => ?_⟩, fun z => absurd (by decide) z⟩
      rw [nI_clamp (by omega)] at e3
      rw [nI_1]
      refine ih ht2 M3 ⟨_, ordr_ins ho (Nat.zero_le _) (fun i _ hi => (z2 i (by omega) hi).2) (fun i hi => absurd hi (by omega)), fun i hi => ?_⟩ (fun k hk => by rw [e3, rp_s_cell hk]; exact z3 k hk)
      show M3 145 i = nI (if i < 0 then o i else if i = 0 then t else o (i - 1))
      rw [if_neg (by omega)]
      by_cases c : i = 0
      · rw [if_pos c, e3, c, rp_s_at]
      · rw [if_neg c, e3, rp_s_ne (by omega)]
        have := (z2 (i - 1) (by omega) (by omega)).1
        rw [show i - 1 + 1 = i by omega] at this
        exact this
    | succ p ihp =>
      intro hp M2 z1 z2 z3
      have hop := hoa p (by omega)
      refine vX0_sortByChange_12 E _ M2 h0 s0 _ _ ?_
      have ep : nI (p + 1) - 1 = nI p := nI_pred _
      rw [ep, show (0 : Int32) = nI 0 by rfl, nI_leI (by omega) (by omega), nI_clamp (by omega), nI_clamp (by omega), nI_clamp (by omega), z1 p (by omega), nI_clamp (by omega), z3 r hne, (hf t ht2).1, (hf (o p) (by omega)).1, nI_leI (hf t ht2).2 (hf (o p) (by omega)).2]
      refine ⟨fun z => absurd z (by omega), fun _ => ⟨nI_inb (by omega) (by omega), nI_inb (by omega) (by omega), nI_inb (by omega) (by omega), fun y => ⟨nI_inb (by omega) (by omega), fun M3 e3 => ?_⟩, fun y => ⟨nI_inb (by omega) (by omega), fun M3 e3 => ?_⟩⟩⟩
      · rw [nI_1]
        refine ih ht2 M3 ⟨_, ordr_ins ho hp (fun i h1 hi => (z2 i h1 hi).2) (fun i hi => ?_), fun i hi => ?_⟩ (fun k hk => by rw [e3, rp_s_cell hk]; exact z3 k hk)
        · by_cases c : i = p
          · rw [c]
            exact y
          · exact Nat.le_trans y (ho.2.2.2 i p (by omega) (by omega))
        · show M3 145 i = nI (if i < p + 1 then o i else if i = p + 1 then t else o (i - 1))
          by_cases c1 : i < p + 1
          · rw [if_pos c1, e3, rp_s_ne (by omega)]
            exact z1 i c1
          · rw [if_neg c1]
            by_cases c : i = p + 1
            · rw [if_pos c, e3, c, rp_s_at]
            · rw [if_neg c, e3, rp_s_ne (by omega)]
              have := (z2 (i - 1) (by omega) (by omega)).1
              rw [show i - 1 + 1 = i by omega] at this
              exact this
      · have en : nI (p + 1) + (-1) = nI p := by
          rw [← Int32.sub_eq_add_neg]
          exact ep
        rw [en]
        refine ihp (by omega) M3 (fun i hi => by rw [e3, rp_s_ne (by omega)]; exact z1 i (by omega)) (fun i h1 hi => ?_) (fun k hk => by rw [e3, rp_s_cell hk]; exact z3 k hk)
        by_cases c : i = p
        · subst c
          rw [e3, rp_s_at]
          exact ⟨rfl, by omega⟩
        · rw [e3, rp_s_ne (by omega)]
          exact z2 i (by omega) hi
  exact down t (Nat.le_refl _) M1 q1 (fun i h1 h2 => absurd h1 (by omega)) q2
